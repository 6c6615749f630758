/-! since -/
theorem DAT.uniq {T : AS} {n : Nat} {u : Int32} {D D' : DT} {W kn W' kn' : Nat → Prop} {P K M P' K' M' : Nat} {l l' : Nat → Nat} (h : DAT T n u D W kn P K M l) (h' : DAT T n u D' W' kn' P' K' M' l') {p : Nat} (hp : p < nQ T) : gi (mrun D l M) 85 p = gi (mrun D' l' M') 85 p := by
  obtain ⟨U, g1, g2, g3⟩ := goes_ok h
  obtain ⟨U', g1', g2', g3'⟩ := goes_ok h'
  have e : U = U' := Option.some.inj (g1.symm.trans g1')
  subst e
  rw [← (g3.1 p (by rw [h.eqs.1]; exact hp)).1, ← (g3'.1 p (by rw [h'.eqs.1]; exact hp)).1]
def pEn (c k : Nat) : Prop := c = 61 ∨ c = 62
theorem keep_ok {m n : Nat} {S : AS} {D : DT} {W kn : Nat → Prop} {P K M : Nat} {l : Nat → Nat} (h : INV m S) (hd : DAT S n 9999999 D W kn P K M l) (hr : RC S D (mrun D l M)) (hn : n ≤ nN S) : ∃ S', f_Ends_keep_50 (nI n) S = some S' ∧ INV m S' ∧ fr pEn S S' ∧ gi S' 62 n = gi S' 16 8 ∧ ∀ j, ¬ j = n → gi S' 62 j = gi S 62 j := by
  obtain ⟨hs, hA, hB, hC, hO, hD, hE, hG, hH, hU, hJ, ⟨w0, hw0, ew0⟩, hF, hK⟩ := id h
  have hN := hC.1
  have hQ := hd.1.1
  have e16 : nI n * 16 = nI (16 * n) := by rw [show (16 : Int32) = nI 16 from rfl, pk_mul, Nat.mul_comm]
  have hacp : acp 0 (nI (16 * n)) 16 16 2576 := ⟨by decide, nI_pos (by omega), by decide, by decide, by rw [ix_nI (by omega)]; show 16 * n + 16 ≤ 2576; omega⟩
  generalize hG' : va_cpy (gi S 50) (gi S 61) (ix 0) (ix (nI (16 * n))) (ix 16) = F
  have i0 : ix 0 = 0 := by decide
  have i16 : ix 16 = 16 := by decide
  have f1 : ∀ q, q < 16 → F (16 * n + q) = gi S 50 q := fun q hq => by
    rw [← hG', i0, i16, ix_nI (by omega), pk_cpy_in (by omega) (by omega)]
    congr 1; omega
  have f2 : ∀ j q, ¬ j = n → q < 16 → F (16 * j + q) = gi S 61 (16 * j + q) := fun j q hj hq => by
    rw [← hG', i0, i16, ix_nI (by omega), pk_cpy_out (by omega)]
  have hfr : fr pEn S (si (sa S 61 F) 62 n (gi S 16 8)) := ((fr_rf _ S).sa (fun k => by unfold pEn; omega)).si (by unfold pEn; omega)
  have g62 : ∀ j, gi (si (sa S 61 F) 62 n (gi S 16 8)) 62 j = if j = n then gi S 16 8 else gi S 62 j := fun j => by
    rw [gi_si, gi_sa, if_neg (show ¬ 62 = 61 by omega)]
    by_cases e : j = n
    · rw [if_pos ⟨rfl, e⟩, if_pos e]
    · rw [if_neg (fun z => e z.2), if_neg e]
  have g61 : ∀ k, gi (si (sa S 61 F) 62 n (gi S 16 8)) 61 k = F k := fun k => by
    rw [gi_si, if_neg (by omega), gi_sa, if_pos rfl]
  have hcode : f_Ends_keep_50 (nI n) S = some (si (sa S 61 F) 62 n (gi S 16 8)) := by
    unfold f_Ends_keep_50
    rw [if_neg (nI_pos (by omega)), if_neg (show ¬ (160 : Int32) < nI n from nI_nlt (a := 160) (by omega) (by decide)), if_pos (by decide), e16, chk_pos hacp]
    simp only [nm_k]
    rw [hG', chk_pos (in_nI (by omega) (by decide)), ix_nI (by omega)]
    rfl
  generalize si (sa S 61 F) 62 n (gi S 16 8) = T at hfr g62 g61 hcode
  have e8 : gi T 16 8 = gi S 16 8 := hfr.2.1 16 8 (by unfold pEn; omega)
  have eN : nN T = nN S := by unfold nN; rw [hfr.2.1 70 6 (by unfold pEn; omega)]
  have dm : ∀ {n : Nat} {u : Int32} {D : DT} {W kn : Nat → Prop} {P K M : Nat} {l : Nat → Nat}, DAT S n u D W kn P K M l → DAT T n u D W kn P K M l := fun hd => hd.fg (fun c k hc => hfr.2.1 c k (by unfold pEn; omega))
  have hK' : iK T := by
    obtain ⟨w, w1, w2, w3, w4, w5⟩ := hK
    refine ⟨w, w1, by rw [e8]; exact w2, by rw [hfr.2.1 49 16 (by unfold pEn; omega)]; exact w3, fun z => ?_, fun j hj => ?_⟩
    · rw [hfr.2.1 49 16 (by unfold pEn; omega)] at z
      obtain ⟨n', D', W', kn', P', K', m', l', a, b, c, d, e⟩ := w4 z
      rw [hfr.2.1 49 17 (by unfold pEn; omega), hfr.2.1 49 18 (by unfold pEn; omega)]
      exact ⟨n', D', W', kn', P', K', m', l', by omega, b, dm c, d.cg (fun c k x y => hfr.2.1 c k (by unfold pEn; omega)) (fun k => hfr.2.2.1 53 k (by unfold pEn; omega)), e.cg (fun c k x => hfr.2.1 c k (by unfold pEn; omega)) (hfr.2.2.2 49 15)⟩
    · rw [g62]
      by_cases e : j = n
      · subst e
        rw [if_pos rfl]
        exact ⟨Or.inr ⟨w, Nat.le_refl _, w2⟩, fun _ => ⟨D, W, kn, P, K, M, l, by omega, dm hd, fun q hq => by rw [g61, f1 q (by omega)]; exact (hr.1 q hq).1⟩⟩
      · rw [if_neg e]
        refine ⟨(w5 j hj).1, fun z => ?_⟩
        obtain ⟨D', W', kn', P', K', m', l', a, b, c⟩ := (w5 j hj).2 z
        have hQ' := b.1.1
        exact ⟨D', W', kn', P', K', m', l', by omega, dm b, fun q hq => by rw [g61, f2 j q e (by omega)]; exact c q hq⟩
  refine ⟨T, hcode, ⟨hfr.sh hs, hA.fr hfr (fun c k hd hp => by unfold dA at hd; unfold pEn at hp; omega), hB.fr hfr (fun c k hd hp => by unfold dB at hd; unfold pEn at hp; omega), hC.fr hfr (fun c k hd hp => by unfold dC at hd; unfold pEn at hp; omega), hO.fr hfr (fun c k hd hp => by unfold dO at hd; unfold pEn at hp; omega), hD.fr hfr (fun c k hd hp => by unfold dD at hd; unfold pEn at hp; omega), hE.fr hfr (fun c k hd hp => by unfold dE at hd; unfold pEn at hp; omega), hG.fr hfr (fun c k hd hp => by unfold dG at hd; unfold pEn at hp; omega), hH.fr hfr (fun c k hd hp => by unfold dH at hd; unfold pEn at hp; omega), hU.fr hfr (fun c k hd hp => by unfold dU at hd; unfold pEn at hp; omega), hJ.fr hfr (fun c k hd hp => by unfold dJ at hd; unfold pEn at hp; omega), ⟨w0, hw0, by rw [e8]; exact ew0⟩, hF.fr hfr (fun c k hd hp => by unfold dF at hd; unfold pEn at hp; omega), hK'⟩, hfr, by rw [g62, if_pos rfl, e8], fun j hj => by rw [g62, if_neg hj]⟩
def msn (v : Nat → Int32) (z : Int32) : Nat → Nat
  | 0 => 0
  | s + 1 => if v s = z then msn v z s else s + 1
theorem knows_spec {S : AS} {n : Nat} (hn : n ≤ 160) : f_Ends_knows (nI n) S = some (if gi S 62 n = gi S 16 8 then 1 else 0, S) := by
  unfold f_Ends_knows
  simp only [nm_k]
  rw [if_neg (nI_pos (by omega)), if_neg (show ¬ (160 : Int32) < nI n from nI_nlt (a := 160) (by omega) (by decide)), chk_pos (in_nI (by omega) (by decide)), ix_nI (by omega)]
  split <;> rfl
theorem hold_spec {m : Nat} {S : AS} {n p : Nat} (h : INV m S) (hn : n ≤ nN S) (hp : p < nQ S) (hk : gi S 62 n = gi S 16 8) : ∃ D W kn P K M l, DAT S n 9999999 D W kn P K M l ∧ f_Ends_holderOf (nI p) (nI n) S = some (gi (mrun D l M) 85 p, S) := by
  obtain ⟨hs, hA, hB, hC, hO, hD, hE, hG, hH, hU, hJ, hW, hF, hK⟩ := h
  obtain ⟨hP, hQ, e1, e2, e3, e4, bP, bQ⟩ := hB
  have hN := hC.1
  obtain ⟨w, w1, w2, w3, w4, w5⟩ := hK
  obtain ⟨D, W, kn, P, K, M, l, a, b, c⟩ := (w5 n (by omega)).2 (by rw [hk]; exact w2)
  refine ⟨D, W, kn, P, K, M, l, b, ?_⟩
  unfold f_Ends_holderOf
  simp only [nm_k]
  have ei : nI n * 16 + nI p = nI (16 * n + p) := by rw [show (16 : Int32) = nI 16 from rfl, pk_mul, nI_add, Nat.mul_comm]
  rw [rq_yes e4 (nI_pos (by omega)) (nI_ge hp (by omega)), bI_eq, if_neg ne10, knows_spec (by omega), bI_eq, if_pos hk, if_neg ne10, ei, chk_pos (in_nI (by omega) (by decide)), ix_nI (by omega), c p (by rw [b.eqs.1]; exact hp)]
theorem sn_C {m : Nat} {S : AS} {p last : Nat} {v : Nat → Int32} (hp : p < nQ S) (hl : last ≤ nN S) (hl2 : last ≤ 160) (hv : ∀ n, n ≤ nN S → ∀ T D W kn P K M l, (∀ c k, c ≤ 48 ∨ 63 ≤ c → gi T c k = gi S c k) → DAT T n 9999999 D W kn P K M l → gi (mrun D l M) 85 p = v n) : ∀ (f s : Nat) (T : AS), s ≤ last + 1 → s < f → INV m T → (∀ c k, c ≤ 48 ∨ 63 ≤ c → gi T c k = gi S c k) → (s ≤ last → gi T 62 last = gi T 16 8) → ∃ T', f_Chan_since_L20 (fun S5 => some (0, S5)) (nI p) (nI last) f (nI s + (-1)) T = some (nI (msn v (v last) s), T') ∧ INV m T' ∧ ∀ c k, c ≤ 48 ∨ 63 ≤ c → gi T' c k = gi S c k := by
  intro f
  induction f with
  | zero => intro s T _ h; omega
  | succ f ih =>
    intro s T hs hf hi hfr hk
    cases s with
    | zero => exact ⟨T, by rw [f_Chan_since_L20, if_pos (by decide)]; rfl, hi, hfr⟩
    | succ s =>
      have nNT : nN T = nN S := by unfold nN; rw [hfr 70 6 (by omega)]
      have nQT : nQ T = nQ S := by unfold nQ; rw [hfr 70 4 (by omega)]
      have step : ∀ T2, INV m T2 → (∀ c k, c ≤ 48 ∨ 63 ≤ c → gi T2 c k = gi S c k) → gi T2 62 s = gi T2 16 8 → gi T2 62 last = gi T2 16 8 → ∃ T', (bI (f_Ends_holderOf (nI p) (nI s) T2) fun r10 S9 => bI (f_Ends_holderOf (nI p) (nI last) S9) fun r12 S11 => if r10 = r12 then (f_Chan_since_L20 (fun S5 => some (0, S5)) (nI p) (nI last) f (nI s + (-1)) S11) else (some (nI s + 1, S11))) = some (nI (msn v (v last) (s + 1)), T') ∧ INV m T' ∧ ∀ c k, c ≤ 48 ∨ 63 ≤ c → gi T' c k = gi S c k := by
        intro T2 i2 f2 k1 k2
        have nN2 : nN T2 = nN S := by unfold nN; rw [f2 70 6 (by omega)]
        have nQ2 : nQ T2 = nQ S := by unfold nQ; rw [f2 70 4 (by omega)]
        obtain ⟨D, W, kn, P, K, M, l, x1, x2⟩ := hold_spec (p := p) i2 (show s ≤ nN T2 by omega) (by omega) k1
        obtain ⟨D', W', kn', P', K', M', l', y1, y2⟩ := hold_spec (p := p) i2 (show last ≤ nN T2 by omega) (by omega) k2
        rw [x2, bI_eq, y2, bI_eq, hv s (by omega) T2 D W kn P K M l f2 x1, hv last hl T2 D' W' kn' P' K' M' l' f2 y1, msn]
        by_cases z : v s = v last
        · rw [if_pos z, if_pos z]
          exact ih s T2 (by omega) (by omega) i2 f2 (fun _ => k2)
        · rw [if_neg z, if_neg z, nI_1]
          exact ⟨T2, rfl, i2, f2⟩
      rw [pk_m1, f_Chan_since_L20, if_neg (nI_pos (by omega)), knows_spec (by omega), bI_eq]
      simp only [nm_k]
      by_cases hkn : gi T 62 s = gi T 16 8
      · rw [if_pos hkn, if_neg ne10]
        refine step T hi hfr hkn ?_
        by_cases e : s = last
        · rw [← e]; exact hkn
        · exact hk (by omega)
      · rw [if_neg hkn, if_pos rfl]
        obtain ⟨T1, D, W, kn, P, K, M, l, t1, t2, t3, t4, t5, t6, t7, t8, t9⟩ := tell_ok hi (show s ≤ nN T by omega) LAST_bnd
        have e1 : ∀ c k, c ≤ 48 ∨ 60 ≤ c → gi T1 c k = gi T c k := fun c k hc => t2.2.1 c k (by unfold pCT; omega)
        have nN1 : nN T1 = nN T := by unfold nN; rw [e1 70 6 (by omega)]
        obtain ⟨T2, u1, u2, u3, u4, u5⟩ := keep_ok t3 t4 t5 (by omega)
        rw [t1, bV_eq, u1, bV_eq]
        refine step T2 u2 (fun c k hc => by rw [u3.2.1 c k (by unfold pEn; omega), e1 c k (by omega)]; exact hfr c k hc) u4 ?_
        by_cases e : last = s
        · rw [e]; exact u4
        · rw [u5 last e, u3.2.1 16 8 (by unfold pEn; omega), e1 62 last (by omega), e1 16 8 (by omega)]
          exact hk (by omega)
theorem sn_M {m : Nat} {S : AS} {p : Nat} {z : Int32} {v : Nat → Int32} (hp : p < nQ S) (hq : nQ S ≤ 16) (hv : ∀ n, n ≤ nN S → ∀ T D W kn P K M l, (∀ c k, c ≤ 48 ∨ 63 ≤ c ∧ c ≤ 84 → gi T c k = gi S c k) → DAT T n 9999999 D W kn P K M l → gi (mrun D l M) 85 p = v n) : ∀ (f s : Nat) (T : AS), s ≤ nN S → s + 1 < f → INV m T → (∀ c k, c ≤ 48 ∨ 63 ≤ c ∧ c ≤ 84 → gi T c k = gi S c k) → ∃ T', (∀ J : Int32 → AS → Option (Int32 × AS), f_Md_since_L35 J (nI p) z f (nI s) 1 T = J (nI (msn v z s)) T') ∧ INV m T' := by
  intro f
  induction f with
  | zero => intro s T _ h; omega
  | succ f ih =>
    intro s T hs hf hi hfr
    have hN := hi.2.2.2.1.1
    have nNT : nN T = nN S := by unfold nN; rw [hfr 70 6 (by omega)]
    have nQT : nQ T = nQ S := by unfold nQ; rw [hfr 70 4 (by omega)]
    cases s with
    | zero => exact ⟨T, fun J => by rw [f_Md_since_L35, if_pos (show nI 0 ≤ 0 by decide)]; rfl, hi⟩
    | succ s =>
      obtain ⟨g1, g2, g3, g4, g5, g6, -⟩ := mkD_ok hi (show s ≤ nN T by omega)
      obtain ⟨M, l, q1, q2⟩ := sq_ok hi (show s ≤ nN T by omega) (u := 9999999)
      have hd : DAT T s 9999999 (mkD T s) _ _ _ _ M l := ⟨g1, g2, g3, g4, q1, q2⟩
      obtain ⟨U, u1, u2, u3⟩ := goes_ok hd
      have hU : gi U 85 p = v s := by
        rw [(u3.1 p (by rw [hd.eqs.1]; omega)).1]
        exact hv s (by omega) T _ _ _ _ _ _ _ hfr hd
      have iU := hi.g u2
      have fU : ∀ c k, c ≤ 48 ∨ 63 ≤ c ∧ c ≤ 84 → gi U c k = gi S c k := fun c k hc => by rw [u2.2.1 c k (by unfold pMG; omega)]; exact hfr c k hc
      have unf : ∀ J : Int32 → AS → Option (Int32 × AS), f_Md_since_L35 J (nI p) z (f + 1) (nI (s + 1)) 1 T = if v s = z then f_Md_since_L35 J (nI p) z f (nI s) 1 U else f_Md_since_L35 J (nI p) z f (nI (s + 1)) 0 U := fun J => by
        rw [f_Md_since_L35, if_neg (nI_nle (by omega) (by omega)), if_neg ne10, nI_pred, u1, bV_eq, chk_pos (in_nI (by omega) (by decide)), ix_nI (by omega), hU]
        simp only [nm_k]
        by_cases e : v s = z
        · rw [if_pos e, if_pos e, if_neg ne10, nI_pred]
        · rw [if_neg e, if_neg e, if_pos trivial, show nI (s + 1) - 0 = nI (s + 1) from pk_sub (a := s + 1) (b := 0) (by omega)]
      rw [msn]
      by_cases e : v s = z
      · rw [if_pos e]
        obtain ⟨T', t1, t2⟩ := ih s U (by omega) (by omega) iU fU
        exact ⟨T', fun J => by rw [unf, if_pos e]; exact t1 J, t2⟩
      · rw [if_neg e]
        refine ⟨U, fun J => ?_, iU⟩
        rw [unf, if_neg e]
        obtain ⟨f', rfl⟩ : ∃ f', f = f' + 1 := ⟨f - 1, by omega⟩
        rw [f_Md_since_L35, if_neg (nI_nle (by omega) (by omega)), if_pos rfl]
theorem ok_since {m : Nat} {S : AS} (hm : m < 600) (h : INV m S) (p1 : Int32) : ∃ (r : Int32) (S1 S2 : AS), f_Chan_since p1 S = some (r, S1) ∧ f_Md_since p1 S1 = some (r, S2) ∧ INV (m + 1) S2 := by
  obtain ⟨hs, hA, hB, hC, hO, hD, hE, hG, hH, hU, hJ, hW, hF, hK⟩ := id h
  obtain ⟨hP, hQ, e1, e2, e3, e4, bP, bQ⟩ := id hB
  have one : ¬ (1 : Int32) = 0 := by decide
  have hN := hC.1
  obtain ⟨n, hn, k1, k2⟩ := known_ok h
  unfold f_Chan_since f_Md_since
  simp only [nm_k]
  rcases idx_cases p1 (nQ S) (by omega) with ⟨p, hp, ep, q0, q1⟩ | hno
  rotate_left
  · exact ⟨-1, S, S, by rw [rq_no e4 hno, bI_eq, if_pos rfl], by rw [mq_no e3 hno, bI_eq, if_pos rfl], h.step⟩
  subst ep
  have hex : ∀ n : Nat, ∃ y : Int32, n ≤ nN S → ∀ T D W kn P K M l, (∀ c k, c ≤ 48 ∨ 63 ≤ c ∧ c ≤ 84 → gi T c k = gi S c k) → DAT T n 9999999 D W kn P K M l → gi (mrun D l M) 85 p = y := fun n => by
    by_cases hn : n ≤ nN S
    · obtain ⟨g1, g2, g3, g4, g5, g6, -⟩ := mkD_ok h hn
      obtain ⟨M0, l0, x1, x2⟩ := sq_ok h hn (u := 9999999)
      refine ⟨gi (mrun (mkD S n) l0 M0) 85 p, fun _ T D W kn P K M l hfr hd => ?_⟩
      have hd0 : DAT S n 9999999 (mkD S n) _ _ _ _ M0 l0 := ⟨g1, g2, g3, g4, x1, x2⟩
      exact hd.uniq (hd0.fg (fun c k hc => hfr c k (by omega))) (by unfold nQ at hp ⊢; rw [hfr 70 4 (by omega)]; exact hp)
    · exact ⟨0, fun z => absurd z hn⟩
  obtain ⟨v, hv⟩ := Classical.skolem.mp hex
  obtain ⟨T, t1, t2, t3⟩ := sn_C (last := n) (v := v) hp hn (by omega) (fun n hn T D W kn P K M l hfr hd => hv n hn T D W kn P K M l (fun c k hc => hfr c k (by omega)) hd) FU (n + 1) S (Nat.le_refl _) (by rw [FU_succ]; omega) h (fun _ _ _ => rfl) (fun z => by omega)
  rw [pk_m1] at t1
  have eT : msn v (v n) (n + 1) = msn v (v n) n := by rw [msn, if_pos rfl]
  rw [eT] at t1
  have nNT : nN T = nN S := by unfold nN; rw [t3 70 6 (by omega)]
  obtain ⟨g1, g2, g3, g4, g5, g6, -⟩ := mkD_ok t2 (show n ≤ nN T by omega)
  obtain ⟨M, l, y1, y2⟩ := sq_ok t2 (show n ≤ nN T by omega) (u := 9999999)
  have hd : DAT T n 9999999 (mkD T n) _ _ _ _ M l := ⟨g1, g2, g3, g4, y1, y2⟩
  obtain ⟨U, u1, u2, u3⟩ := goes_ok hd
  have nQT : nQ T = nQ S := by unfold nQ; rw [t3 70 4 (by omega)]
  have hUv : gi U 85 p = v n := by
    rw [(u3.1 p (by rw [hd.eqs.1]; omega)).1]
    exact hv n hn T _ _ _ _ _ _ _ (fun c k hc => t3 c k (by omega)) hd
  have fU : ∀ c k, c ≤ 48 ∨ 63 ≤ c ∧ c ≤ 84 → gi U c k = gi S c k := fun c k hc => by rw [u2.2.1 c k (by unfold pMG; omega)]; exact t3 c k (by omega)
  obtain ⟨Z, z1, z2⟩ := sn_M (z := v n) hp hQ hv FU n U hn (by rw [FU_succ]; omega) (t2.g u2) fU
  refine ⟨nI (msn v (v n) n), T, Z, by rw [rq_yes e4 q0 q1, bI_eq, if_neg one, k1, bI_eq, t1], ?_, z2.step⟩
  have e3' : gi T 70 4 = nI (nQ S) := by rw [t3 70 4 (by omega)]; exact e3
  rw [mq_yes e3' q0 q1, bI_eq, if_neg one, k2 T (t3 70 14 (by omega)) (t3 70 6 (by omega)), bI_eq, u1, bV_eq, chk_pos (in_nI (by omega) (by decide)), ix_nI (by omega), hUv, k2 U (fU 70 14 (by omega)) (fU 70 6 (by omega)), bI_eq, z1]
