def pCm (c k : Nat) : Prop := c = 50 ∨ c = 52 ∨ c = 58 ∨ c = 59 ∨ (85 ≤ c ∧ c ≤ 93) ∨ c = 69 ∨ (c = 0 ∧ k = 10) ∨ (c = 70 ∧ k = 35)
theorem INV.keepH {m n : Nat} {S S' : AS} {u : Int32} {D : DT} {W kn : Nat → Prop} {P K M : Nat} {l : Nat → Nat} (h : INV m S) (hfr : fr pCm S S') (hn : n ≤ nN S) (h16 : gi S 49 16 = gi S 16 8) (h17 : gi S 49 17 = nI n) (h18 : gi S 49 18 = u) (hd : DAT S n u D W kn P K M l) (ht : TR S D u) (hr : RC S' D (mrun D l M)) (hH' : iH S') : INV m S' := by
  obtain ⟨hs, hA, hB, hC, hO, hD, hE, hG, hH, hU, hJ, ⟨w, hw, ew⟩, hF, hK⟩ := h
  have hd' : DAT S' n u D W kn P K M l := hd.fg (fun c k hc => hfr.2.1 c k (by unfold pCm; omega))
  have ht' : TR S' D u := ht.cg (fun c k hc => hfr.2.1 c k (by unfold pCm; omega)) (hfr.2.2.2 49 15)
  have hK' : iK S' := hK.told (fun c k hc => hfr.2.1 c k (by unfold pCm; omega)) hn (by rw [hfr.2.1 49 16 (by unfold pCm; omega)]; exact h16) (by rw [hfr.2.1 49 17 (by unfold pCm; omega)]; exact h17) (by rw [hfr.2.1 49 18 (by unfold pCm; omega)]; exact h18) hd' hr ht'
  exact ⟨hfr.sh hs, hA.fr hfr (fun c k hd hp => by unfold dA at hd; unfold pCm at hp; omega), hB.fr hfr (fun c k hd hp => by unfold dB at hd; unfold pCm at hp; omega), hC.fr hfr (fun c k hd hp => by unfold dC at hd; unfold pCm at hp; omega), hO.fr hfr (fun c k hd hp => by unfold dO at hd; unfold pCm at hp; omega), hD.fr hfr (fun c k hd hp => by unfold dD at hd; unfold pCm at hp; omega), hE.fr hfr (fun c k hd hp => by unfold dE at hd; unfold pCm at hp; omega), hG.fr hfr (fun c k hd hp => by unfold dG at hd; unfold pCm at hp; omega), hH', hU.fr hfr (fun c k hd hp => by unfold dU at hd; unfold pCm at hp; omega), hJ.fr hfr (fun c k hd hp => by unfold dJ at hd; unfold pCm at hp; omega), ⟨w, hw, by rw [hfr.2.1 16 8 (by unfold pCm; omega)]; exact ew⟩, hF.fr hfr (fun c k hd hp => by unfold dF at hd; unfold pCm at hp; omega), hK'⟩
theorem cl_gather {S : AS} {D : DT} {W kn : Nat → Prop} {P K : Nat} {X : AS} {t : Int32} (hd : DOK D W kn) (hs : CSt S D W kn P K) (hx : XOK D W kn X) (hr : RC S D X) (hT : TR S D t) {p : Nat} (hp : p < mQ D) : ∃ S', f_Course_gatherClaims_69 (nI p) S = some (nI (mcl D (si X 85 p (-1)) p t K).1, S') ∧ fr (fun c _ => c = 50 ∨ c = 52 ∨ c = 58 ∨ c = 59 ∨ c = 69) S S' ∧ RC S' D X ∧ ∀ i, i < (mcl D (si X 85 p (-1)) p t K).1 → gi S' 69 i = nI ((mcl D (si X 85 p (-1)) p t K).2 i) := by
  have hQ := hd.1
  have hK48 := hs.2.1
  have ex := hx.h24 hd hp
  have e50 := (hr.1 p hp).1
  obtain ⟨T1, a1, a2, a3, a4⟩ := cl_place (S := S) hQ hp ex (Or.inl rfl) e50 (fun w hw => (hr.2.1 w hw).1) (v := -1)
  have f1 : fr pC0 S T1 := a2.mono (fun c k h => by unfold pC0; omega)
  have r1 := hr.unp a2 a3 a4
  obtain ⟨T2, b1, b2, b3⟩ := gc_out (z := gi X 85 p) hd (hs.mv f1) (hx.unp p) r1 (hT.mv f1) hp FU 0 T1 (by omega) (by rw [FU_succ]; omega) (fr_rf _ _) (fun i hi => absurd hi (Nat.not_lt_zero i))
  have e50' : gi T2 50 p = gi (si X 85 p (-1)) 85 p := by rw [b2.2.1 50 p (by unfold pG; omega)]; exact (r1.1 p hp).1
  obtain ⟨T3, c1, c2, c3, c4⟩ := cl_place (S := T2) (X := si X 85 p (-1)) (v := gi X 85 p) hQ hp (by rw [gi_si, if_pos ⟨rfl, rfl⟩]; exact Or.inl rfl) ex e50' (fun w hw => by rw [b2.2.1 52 w (by unfold pG; omega)]; exact (r1.2.1 w hw).1)
  have fA : fr (fun c _ => c = 50 ∨ c = 52 ∨ c = 58 ∨ c = 59 ∨ c = 69) S T3 := (a2.mono (fun c k h => by omega)).tr ((b2.mono (fun c k h => by unfold pG at h; omega)).tr (c2.mono (fun c k h => by omega)))
  refine ⟨T3, ?_, fA, hr.rep (fun q => ?_) (fun w hw => by rw [c4 w hw, mcnt_back]) (fun c k h => fA.2.1 c k (by omega)) (fun k => fA.2.2.1 53 k (by omega)), fun i hi => by rw [c2.2.1 69 i (by omega)]; exact b3 i hi⟩
  · unfold f_Course_gatherClaims_69
    simp only [nm_k]
    rw [chk_pos (in_nI (by omega) (by decide)), a1, bV_eq, ix_nI (by omega), e50]
    have b0 := b1 (fun a3 S4 => bV (f_Course_place (nI p) (gi X 85 p) S4) fun S5 => some (a3, S5))
    rw [show (mcl D (si X 85 p (-1)) p t 0).1 = 0 from rfl, nI_0] at b0
    rw [b0, c1, bV_eq]
  · by_cases e : q = p
    · rw [e, c3, e50]
    · rw [c2.2.1 50 q (by omega), b2.2.1 50 q (by unfold pG; omega), a2.2.1 50 q (by omega)]
theorem ok_claims {m : Nat} {S : AS} (hm : m < 600) (h : INV m S) (p1 p2 : Int32) : ∃ (r : Int32) (S1 S2 : AS), f_Chan_claims p1 p2 S = some (r, S1) ∧ f_Md_claims p1 p2 S1 = some (r, S2) ∧ INV (m + 1) S2 := by
  obtain ⟨hs, hA, hB, hC, hO, hD, hE, hG, hH, hU, hJ, hW, hF, hK⟩ := id h
  obtain ⟨hP, hQ, e1, e2, e3, e4, bP, bQ⟩ := id hB
  have one : ¬ (1 : Int32) = 0 := by decide
  obtain ⟨n, hn, k1, k2⟩ := known_ok h
  unfold f_Chan_claims f_Md_claims
  simp only [nm_k]
  rcases idx_cases p1 (nQ S) (by omega) with ⟨p, hp, ep, q0, q1⟩ | hno
  rotate_left
  · exact ⟨-1, S, S, by rw [rq_no e4 hno, bI_eq, if_pos rfl], by rw [mq_no e3 hno, bI_eq, if_pos rfl], h.step⟩
  rcases rng_cases p2 9999999 (by decide) with r1 | ⟨t, ht, et, r1⟩
  · have r1' : (if p2 < 0 then (0 : Int32) else if 9999999 < p2 then 0 else 1) = 0 := r1
    exact ⟨-1, S, S, by rw [rq_yes e4 q0 q1, bI_eq, if_neg one, time_spec, bI_eq, r1', if_pos rfl], by rw [mq_yes e3 q0 q1, bI_eq, if_neg one, mtime_spec, bI_eq, r1', if_pos rfl], h.step⟩
  have r1' : (if p2 < 0 then (0 : Int32) else if 9999999 < p2 then 0 else 1) = 1 := r1
  subst ep
  rw [rq_yes e4 q0 q1, bI_eq, if_neg one, time_spec, bI_eq, r1', if_neg one, k1, bI_eq]
  obtain ⟨T, D, W, kn, P, K, M, l, t1, t2, t3, t4, t5, t6, t7, t8, t9⟩ := tell_ok h hn (u := p2) ⟨t, ht, et⟩
  have eT : ∀ c k, c ≤ 48 ∨ 60 ≤ c → gi T c k = gi S c k := fun c k hc => t2.2.1 c k (by unfold pCT; omega)
  obtain ⟨q2, q3, q4⟩ := t4.eqs
  have nQT : nQ T = nQ S := by unfold nQ; rw [eT 70 4 (by omega)]
  have nNT : nN T = nN S := by unfold nN; rw [eT 70 6 (by omega)]
  have hcs : CSt T D W kn P K := CSt.of t3.2.2.1 t3.2.2.2.2.2.1 t3.2.2.2.2.2.2.2.2.2.2.2.2.1 t4.2.2.1
  have hpD : p < mQ D := by omega
  have hK48 := hcs.2.1
  obtain ⟨T', v1, v2, v3, v4⟩ := cl_gather t4.1 hcs (XOK.dat t4) t5 t6 hpD
  generalize hc : (mcl D (si (mrun D l M) 85 p (-1)) p p2 K) = C at v1 v4
  have fT'' : fr (fun c k => c = 50 ∨ c = 52 ∨ c = 58 ∨ c = 59 ∨ c = 69 ∨ (c = 0 ∧ k = 10)) T (si T' 0 10 (nI C.1)) := (v2.mono (fun c k h => by omega)).si (by omega)
  have e10 : gi (si T' 0 10 (nI C.1)) 0 10 = nI C.1 := by rw [gi_si, if_pos ⟨rfl, rfl⟩]
  have e69 : ∀ i, gi (si T' 0 10 (nI C.1)) 69 i = gi T' 69 i := fun i => by rw [gi_si, if_neg (by omega)]
  have v3' : RC (si T' 0 10 (nI C.1)) D (mrun D l M) := v3.cg (fun c k x y => by rw [gi_si, if_neg (by omega)]) (fun k => rfl)
  rw [t1, bV_eq, v1, bI_eq, e10]
  generalize si T' 0 10 (nI C.1) = V at fT'' e10 e69 v3'
  have t4' : DAT V n p2 D W kn P K M l := t4.fg (fun c k hc => fT''.2.1 c k (by omega))
  obtain ⟨U, g1, g2, g3⟩ := goes_ok t4'
  have fV : ∀ c k, (70 ≤ c ∧ c ≤ 84) → gi V c k = gi S c k := fun c k hc => by rw [fT''.2.1 c k (by omega)]; exact eT c k (by omega)
  have hst : MSt (si (si U 85 p (-1)) 70 35 0) D W kn P K := (t4'.2.2.1.frMG g2).g (fun c k hc => by rw [gi_si, if_neg (by omega), gi_si, if_neg (by omega)])
  have hrm : RM (si (si U 85 p (-1)) 70 35 0) D P K (si (mrun D l M) 85 p (-1)) := (g3.si 85 p (-1)).g (fun c k x y => by rw [gi_si, if_neg (by omega)]) (fun k => rfl)
  obtain ⟨Z, z1, z2, z3, z4⟩ := gm_out t4.1 ⟨t, ht, et⟩ hst ((XOK.dat t4).unp p) hrm hpD FU 0 (si (si U 85 p (-1)) 70 35 0) (by omega) (by rw [FU_succ]; omega) (fr_rf _ _) (by rw [gi_si, if_pos ⟨rfl, rfl⟩]; rfl) (fun i hi => absurd hi (Nat.not_lt_zero i))
  rw [hc] at z3 z4
  have hCK : C.1 ≤ 48 := by
    have := (mcl_ok ((XOK.dat t4).unp p) p p2 K).1
    rw [hc] at this
    omega
  have fUZ : fr pCm V Z := ((((g2.mono (fun c k h => by unfold pMG at h; unfold pCm; omega)).si (by unfold pCm; omega)).si (by unfold pCm; omega)).tr (z2.mono (fun c k h => by unfold pH at h; unfold pCm; omega)))
  have fall : fr pCm T Z := (fT''.mono (fun c k h => by unfold pCm; omega)).tr fUZ
  have zk : ∀ c k, (50 ≤ c ∧ c ≤ 57) ∨ c = 69 ∨ c = 0 → gi Z c k = gi V c k := fun c k hc => by rw [z2.2.1 c k (by unfold pH; omega), gi_si, if_neg (by omega), gi_si, if_neg (by omega), g2.2.1 c k (by unfold pMG; omega)]
  refine ⟨nI C.1, V, Z, rfl, ?_, (t3.keepH fall (by omega) t7 t8 t9 t4 t6 (v3'.cg (fun c k x y => zk c k (by omega)) (fun k => by rw [z2.2.2.1 53 k (by unfold pH; omega)]; exact g2.2.2.1 53 k (by unfold pMG; omega))) ⟨C.1, hCK, by rw [zk 0 10 (by omega)]; exact e10, z3, fun i hi => by rw [zk 69 i (by omega), e69, v4 i hi, z4 i hi]⟩).step⟩
  have e3' : gi V 70 4 = nI (nQ S) := by rw [fV 70 4 (by omega)]; exact e3
  rw [mq_yes e3' q0 q1, bI_eq, if_neg one, mtime_spec, bI_eq, r1', if_neg one, k2 V (fV 70 14 (by omega)) (fV 70 6 (by omega)), bI_eq, g1, bV_eq, chk_pos (in_nI (by omega) (by decide)), ix_nI (by omega)]
  have z0 := z1 (fun S10 => some (gi S10 70 35, S10))
  rw [nI_0] at z0
  rw [z0, z3]
