/-! who is ahead: the two orders are one -/
theorem mtst_same {D : DT} {X : AS} {o p w w' : Nat} {b b' t : Int32} (h : D 83 o = nI 0 ∨ D 83 o = nI 1) : mtst D X o p w b t = mtst D X o p w' b' t := by
  have e : msub D X (D 83 o) p w b t = msub D X (D 83 o) p w' b' t := by
    unfold msub
    rcases h with h | h
    · rw [h, if_pos nI_0, if_pos nI_0]
    · rw [h, if_neg (show ¬ nI 1 = 0 by decide), if_pos (show nI 1 = 1 by decide), if_neg (show ¬ nI 1 = 0 by decide), if_pos (show nI 1 = 1 by decide)]
  unfold mtst
  rw [e]
theorem mhol_same {D : DT} {X : AS} {o p w w' : Nat} {b b' t : Int32} : ∀ c, (∀ j, j < c → D 83 (o + 3 * (j + 1)) = nI 0 ∨ D 83 (o + 3 * (j + 1)) = nI 1) → mhol D X o p w b t c = mhol D X o p w' b' t c := by
  intro c
  induction c with
  | zero => intro _; rfl
  | succ c ih =>
    intro h
    rw [mhol, mhol, ih (fun j hj => h j (by omega)), mtst_same (h c (by omega))]
theorem mdec_anti {D : DT} {W kn : Nat → Prop} {X : AS} (hd : DOK D W kn) {t : Int32} (ht : bnd t 9999999) {r n p a b : Nat} (hr6 : r < mR D) (hn : D 81 r = nI n) (hn16 : n ≤ 16) (hp : p < mQ D) (ha : kn a) (hb : kn b) (hab : ¬ a = b) : ∀ m i, i + m = n → (mdec D X r p a b t m i < 0 ↔ ¬ mdec D X r p b a t m i < 0) := by
  obtain ⟨d1, d2, d3, d4, d5, d6, d7, d8⟩ := id hd
  obtain ⟨n', n1, n2, n3, n4, n5, n6⟩ := d8 r hr6
  have en : n' = n := nI_inj (by omega) (by omega) (n2.symm.trans hn)
  subst en
  intro m
  induction m with
  | zero =>
    intro i _
    rw [mdec, mdec]
    rcases Nat.lt_or_ge a b with q | q
    · rw [if_neg (by omega), if_pos (by omega)]; decide
    · rw [if_pos q, if_neg (by omega)]; decide
  | succ m ih =>
    intro i hi
    obtain ⟨c, q, c1, c2, q1, q2, q3, q4, ct⟩ := n6 i (by omega)
    rw [mdec, mdec]
    by_cases h4 : D 83 (mof D r i) = 4
    · rw [if_pos h4, if_pos h4]; exact ih (i + 1) (by omega)
    rw [if_neg h4, if_neg h4]
    have hq4 : ¬ q = 4 := fun e => h4 (by rw [q2, e]; rfl)
    have eh : mhl D X r i p (ix (D 78 (7 * b))) (nI b) t = mhl D X r i p (ix (D 78 (7 * a))) (nI a) t := by
      unfold mhl
      rw [c2, ix_nI (by omega)]
      refine mhol_same c (fun j hj => ?_)
      obtain ⟨s, s1, s2, s3, -⟩ := ct j hj
      have := s2 hq4
      have h01 : s = 0 ∨ s = 1 := by omega
      rw [s3]
      rcases h01 with e | e
      · rw [e]; exact Or.inl rfl
      · rw [e]; exact Or.inr rfl
    rw [eh]
    by_cases hh : mhl D X r i p (ix (D 78 (7 * a))) (nI a) t = 0
    · rw [if_pos hh, if_pos hh]; exact ih (i + 1) (by omega)
    rw [if_neg hh, if_neg hh]
    obtain ⟨x1, x2⟩ := mdif_mst hd ht hr6 n2 hn16 (show i < n' by omega) h4 hp ha hb (X := X)
    obtain ⟨y1, y2⟩ := mdif_mst hd ht hr6 n2 hn16 (show i < n' by omega) h4 hp hb ha (X := X)
    generalize mst D X (mof D r i) p (ix (D 78 (7 * a))) (nI a) t = va at x1 x2 y1 y2
    generalize mst D X (mof D r i) p (ix (D 78 (7 * b))) (nI b) t = vb at x1 x2 y1 y2
    have ni : ¬ nI i < 0 := nI_pos (by omega)
    have nn : (-(nI i)) - 1 < 0 := by
      have h1 : (-(nI i)) - 1 = -nI (i + 1) := by
        rw [← nI_1]
        apply Int32.toBitVec_inj.mp
        simp only [Int32.toBitVec_sub, Int32.toBitVec_neg, Int32.toBitVec_add]
        generalize (nI i).toBitVec = x
        have : (1 : Int32).toBitVec = 1#32 := rfl
        rw [this]
        bv_omega
      rw [h1, Int32.lt_iff_toInt_lt, sb_negT (by omega)]
      have h0 : (0 : Int32).toInt = 0 := by decide
      omega
    by_cases he : va = vb
    · rw [if_pos (x1.mpr he), if_pos (y1.mpr he.symm)]; exact ih (i + 1) (by omega)
    rw [if_neg (fun z => he (x1.mp z)), if_neg (fun z => he (y1.mp z).symm)]
    by_cases hl : va ≤ vb
    · have hg : ¬ vb ≤ va := fun z => he (Int32.le_antisymm hl z)
      rw [if_pos (x2.mpr hl), if_neg (fun z => hg (y2.mp z))]
      exact ⟨fun _ => ni, fun _ => nn⟩
    · have hg : vb ≤ va := by
        rcases Int32.le_total va vb with z | z
        · exact absurd z hl
        · exact z
      rw [if_neg (fun z => hl (x2.mp z)), if_pos (y2.mpr hg)]
      exact ⟨fun z => absurd z ni, fun z => absurd nn z⟩
theorem mDec_anti {D : DT} {W kn : Nat → Prop} {X : AS} (hd : DOK D W kn) {t : Int32} (ht : bnd t 9999999) {p a b : Nat} (hp : p < mQ D) (ha : kn a) (hb : kn b) (hab : ¬ a = b) : mDec D X p a b t < 0 ↔ ¬ mDec D X p b a t < 0 := by
  unfold mDec
  rcases mfor_ok D t (mR D) with h | ⟨r, r1, r2, r3⟩
  · have h' : mF D t = -1 := h
    rw [if_pos h', if_pos h']
    rcases Nat.lt_or_ge a b with q | q
    · rw [if_neg (by omega), if_pos (by omega)]; decide
    · rw [if_pos q, if_neg (by omega)]; decide
  · have h' : mF D t = nI r := r2
    have d6 := hd.2.2.2.2.2.1
    obtain ⟨n', n1, n2, -⟩ := hd.2.2.2.2.2.2.2 r r1
    rw [h', if_neg (nI_ne_m1 (by omega)), if_neg (nI_ne_m1 (by omega)), ix_nI (by omega), n2, ix_nI (by omega)]
    exact mdec_anti hd ht r1 n2 n1 hp ha hb hab n' 0 (by omega)
/-! a post as if it were free -/
theorem RC.unp {T T1 : AS} {D : DT} {X : AS} {p : Nat} (hr : RC T D X) (hf : fr (fun c k => (c = 50 ∧ k = p) ∨ c = 52) T T1) (h50 : gi T1 50 p = -1) (h52 : ∀ w, w < 24 → gi T1 52 w = nI (mcnt (si X 85 p (-1)) (nI w) (mQ D))) : RC T1 D (si X 85 p (-1)) := by
  obtain ⟨a, b, c⟩ := hr
  refine ⟨fun q hq => ?_, fun w hw => ?_, fun k hk => ?_⟩
  · rw [gi_si X 85 p (-1) 85 q, gi_si X 85 p (-1) 86 q, if_neg (show ¬ (86 = 85 ∧ q = p) by omega)]
    by_cases e : q = p
    · subst e
      rw [if_pos ⟨rfl, rfl⟩, h50]
      exact ⟨rfl, fun z => absurd rfl z⟩
    · rw [if_neg (fun z => e z.2), hf.2.1 50 q (by omega), hf.2.1 51 q (by omega)]
      exact a q hq
  · rw [h52 w hw, hf.2.2.1 53 w (by omega), hf.2.1 54 w (by omega), gl_si, gi_si, if_neg (by omega)]
    exact ⟨rfl, (b w hw).2⟩
  · rw [hf.2.1 55 k (by omega), hf.2.1 56 k (by omega), hf.2.1 57 k (by omega)]
    simp only [gi_si]
    rw [if_neg (by omega), if_neg (by omega), if_neg (by omega)]
    exact c k hk
theorem XOK.unp {D : DT} {W kn : Nat → Prop} {X : AS} (h : XOK D W kn X) (p : Nat) : XOK D W kn (si X 85 p (-1)) := by
  obtain ⟨a, b, c⟩ := h
  refine ⟨fun q hq => ?_, fun k => ?_, fun w => ?_⟩
  · rw [gi_si]
    split
    · exact Or.inl rfl
    · exact a q hq
  · rw [gi_si, if_neg (by omega)]; exact b k
  · rw [gi_si, if_neg (by omega)]; exact c w
theorem RC.rep {T T3 : AS} {D : DT} {X : AS} (hr : RC T D X) (h50 : ∀ q, gi T3 50 q = gi T 50 q) (h52 : ∀ w, w < 24 → gi T3 52 w = nI (mcnt X (nI w) (mQ D))) (e : ∀ c k, c = 51 ∨ (54 ≤ c ∧ c ≤ 57) → gi T3 c k = gi T c k) (el : ∀ k, gl T3 53 k = gl T 53 k) : RC T3 D X := by
  obtain ⟨a, b, c⟩ := hr
  refine ⟨fun q hq => by rw [h50, e 51 q (by omega)]; exact a q hq, fun w hw => ⟨h52 w hw, by rw [el, e 54 w (by omega)]; exact (b w hw).2⟩, fun k hk => by rw [e 55 k (by omega), e 56 k (by omega), e 57 k (by omega)]; exact c k hk⟩
theorem XOK.dat {S : AS} {n : Nat} {u : Int32} {D : DT} {W kn : Nat → Prop} {P K M : Nat} {l : Nat → Nat} (h : DAT S n u D W kn P K M l) : XOK D W kn (mrun D l M) := by
  obtain ⟨a, b, c, d, e, f⟩ := h
  exact XOK.run a b e.1
/-- a paper that is known is among those that the course knows -/
theorem kn_of {m : Nat} {S : AS} {n : Nat} {u : Int32} {D : DT} {W kn : Nat → Prop} {P K M : Nat} {l : Nat → Nat} (hi : INV m S) (h : DAT S n u D W kn P K M l) {k : Nat} (hk : k < nK S) (hl : ¬ nI n < gi S 30 k) : kn k := by
  obtain ⟨hs, hA, hB, hC, hO, hD, hE, hG, hH, hU, hJ, hW, hF, hK⟩ := hi
  obtain ⟨d1, d2, d3, d4⟩ := hD
  obtain ⟨a1, a2, a3, a4, a5, a6, a7, a8, a9, a10, a11, a12, a13, ⟨j, j1, j2, j3, j4, j5⟩, a15⟩ := d4 k hk
  obtain ⟨x1, x2, x3, x4, x5, x6⟩ := h
  have hN := hC.1
  have hjn : j ≤ n := by
    rcases Nat.lt_or_ge n j with q | q
    · exact absurd (by rw [a7, j3]; exact nI_lt q (by omega)) hl
    · exact q
  obtain ⟨y1, y2, y3, y4⟩ := x4.1 j j1 hjn
  have z74 : D 74 j = 0 := by rw [← y1]; exact j4
  have z76 : D 76 j = nI k := by rw [← y3]; exact j5
  rcases x2.2 j j1 hjn with q | ⟨-, ⟨-, i, i1, i2⟩ | ⟨q, -⟩ | ⟨q, -⟩ | ⟨q, -⟩⟩
  · rw [z74] at q; exact absurd q (by decide)
  · have i48 := (x1.2.2.2.2.1 i i1).1
    have e : i = k := nI_inj (by omega) (by omega) (i2.symm.trans z76)
    rw [← e]; exact i1
  · rw [z74] at q; exact absurd q (by decide)
  · rw [z74] at q; exact absurd q (by decide)
  · rw [z74] at q; exact absurd q (by decide)
theorem mcnt_back {X : AS} {p : Nat} {w : Int32} {n : Nat} : mcnt (si (si X 85 p (-1)) 85 p (gi X 85 p)) w n = mcnt X w n := mcnt_congr (fun q _ => by
  rw [gi_si (si X 85 p (-1)) 85 p (gi X 85 p) 85 q]
  by_cases e : q = p
  · rw [if_pos ⟨rfl, e⟩, e]
  · rw [if_neg (fun z => e z.2), gi_si, if_neg (fun z => e z.2)])
def pCl (c k : Nat) : Prop := c = 50 ∨ c = 52 ∨ c = 58 ∨ c = 59
theorem cl_duelF {S : AS} {D : DT} {W kn : Nat → Prop} {P K : Nat} {X : AS} {t : Int32} (hd : DOK D W kn) (hs : CSt S D W kn P K) (hx : XOK D W kn X) (hr : RC S D X) (hT : TR S D t) {p a b : Nat} (hp : p < mQ D) (ha : kn a) (hb : kn b) (hab : ¬ a = b) : ∃ S', f_Course_duelWhenFree (nI a) (nI b) (nI p) S = some (mDec D (si X 85 p (-1)) p a b t, S') ∧ fr pCl S S' ∧ RC S' D X := by
  have hQ := hd.1
  have ex := hx.h24 hd hp
  have e50 := (hr.1 p hp).1
  obtain ⟨T1, a1, a2, a3, a4⟩ := cl_place (S := S) hQ hp ex (Or.inl rfl) e50 (fun w hw => (hr.2.1 w hw).1) (v := -1)
  have f1 : fr pC0 S T1 := a2.mono (fun c k h => by unfold pC0; omega)
  have r1 := hr.unp a2 a3 a4
  obtain ⟨T2, b1, b2⟩ := cl_duel hd (hs.mv f1) r1 (hT.mv f1) hp ha hb hab
  have e50' : gi T2 50 p = gi (si X 85 p (-1)) 85 p := by rw [b2.2.1 50 p (by unfold pCF; omega)]; exact (r1.1 p hp).1
  obtain ⟨T3, c1, c2, c3, c4⟩ := cl_place (S := T2) (X := si X 85 p (-1)) (v := gi X 85 p) hQ hp (by rw [gi_si, if_pos ⟨rfl, rfl⟩]; exact Or.inl rfl) ex e50' (fun w hw => by rw [b2.2.1 52 w (by unfold pCF; omega)]; exact (r1.2.1 w hw).1)
  have fA : fr pCl S T3 := (a2.mono (fun c k h => by unfold pCl; omega)).tr ((b2.mono (fun c k h => by unfold pCF at h; unfold pCl; omega)).tr (c2.mono (fun c k h => by unfold pCl; omega)))
  refine ⟨T3, ?_, fA, hr.rep (fun q => ?_) (fun w hw => by rw [c4 w hw, mcnt_back]) (fun c k h => fA.2.1 c k (by unfold pCl; omega)) (fun k => fA.2.2.1 53 k (by unfold pCl; omega))⟩
  · unfold f_Course_duelWhenFree
    simp only [nm_eq]
    rw [chk_pos (in_nI (by omega) (by decide)), a1, bV_eq, b1, bI_eq, ix_nI (by omega), e50, c1, bV_eq]
  · by_cases e : q = p
    · rw [e, c3, e50]
    · rw [c2.2.1 50 q (by omega), b2.2.1 50 q (by unfold pCF; omega), a2.2.1 50 q (by omega)]
def pBy (c k : Nat) : Prop := c = 50 ∨ c = 52 ∨ c = 58 ∨ c = 59 ∨ (85 ≤ c ∧ c ≤ 92)
/-- from a course that is told: other cells of the course may change, as long as they hold it still -/
theorem INV.keep {m n : Nat} {S S' : AS} {u : Int32} {D : DT} {W kn : Nat → Prop} {P K M : Nat} {l : Nat → Nat} (h : INV m S) (hfr : fr pBy S S') (hn : n ≤ nN S) (h16 : gi S 49 16 = gi S 16 8) (h17 : gi S 49 17 = nI n) (h18 : gi S 49 18 = u) (hd : DAT S n u D W kn P K M l) (ht : TR S D u) (hr : RC S' D (mrun D l M)) : INV m S' := by
  obtain ⟨hs, hA, hB, hC, hO, hD, hE, hG, hH, hU, hJ, ⟨w, hw, ew⟩, hF, hK⟩ := h
  have hd' : DAT S' n u D W kn P K M l := hd.fg (fun c k hc => hfr.2.1 c k (by unfold pBy; omega))
  have ht' : TR S' D u := ht.cg (fun c k hc => hfr.2.1 c k (by unfold pBy; omega)) (hfr.2.2.2 49 15)
  have hK' : iK S' := hK.told (fun c k hc => hfr.2.1 c k (by unfold pBy; omega)) hn (by rw [hfr.2.1 49 16 (by unfold pBy; omega)]; exact h16) (by rw [hfr.2.1 49 17 (by unfold pBy; omega)]; exact h17) (by rw [hfr.2.1 49 18 (by unfold pBy; omega)]; exact h18) hd' hr ht'
  exact ⟨hfr.sh hs, hA.fr hfr (fun c k hd hp => by unfold dA at hd; unfold pBy at hp; omega), hB.fr hfr (fun c k hd hp => by unfold dB at hd; unfold pBy at hp; omega), hC.fr hfr (fun c k hd hp => by unfold dC at hd; unfold pBy at hp; omega), hO.fr hfr (fun c k hd hp => by unfold dO at hd; unfold pBy at hp; omega), hD.fr hfr (fun c k hd hp => by unfold dD at hd; unfold pBy at hp; omega), hE.fr hfr (fun c k hd hp => by unfold dE at hd; unfold pBy at hp; omega), hG.fr hfr (fun c k hd hp => by unfold dG at hd; unfold pBy at hp; omega), hH.fr hfr (fun c k hd hp => by unfold dH at hd; unfold pBy at hp; omega), hU.fr hfr (fun c k hd hp => by unfold dU at hd; unfold pBy at hp; omega), hJ.fr hfr (fun c k hd hp => by unfold dJ at hd; unfold pBy at hp; omega), ⟨w, hw, by rw [hfr.2.1 16 8 (by unfold pBy; omega)]; exact ew⟩, hF.fr hfr (fun c k hd hp => by unfold dF at hd; unfold pBy at hp; omega), hK'⟩
theorem ok_by {m : Nat} {S : AS} (hm : m < 600) (h : INV m S) (p1 p2 p3 p4 : Int32) : ∃ (r : Int32) (S1 S2 : AS), f_Chan_by p1 p2 p3 p4 S = some (r, S1) ∧ f_Md_by p1 p2 p3 p4 S1 = some (r, S2) ∧ INV (m + 1) S2 := by
  obtain ⟨hs, hA, hB, hC, hO, hD, hE, hG, hH, hU, hJ, hW, hF, hK⟩ := id h
  obtain ⟨hP, hQ, e1, e2, e3, e4, bP, bQ⟩ := id hB
  obtain ⟨d1, d2, d3, d4⟩ := id hD
  have one : ¬ (1 : Int32) = 0 := by decide
  obtain ⟨n, hn, k1, k2⟩ := known_ok h
  have kS := k2 S rfl rfl
  unfold f_Chan_by f_Md_by
  simp only [nm_eq]
  rw [k1, bI_eq]
  rcases idx_cases p1 (nQ S) (by omega) with ⟨p, hp, ep, q0, q1⟩ | hno
  rotate_left
  · exact ⟨-1000, S, S, by rw [rq_no e4 hno, bI_eq, if_pos rfl], by rw [mq_no e3 hno, bI_eq, if_pos rfl], h.step⟩
  rcases rng_cases p2 9999999 (by decide) with r1 | ⟨t, ht, et, r1⟩
  · have r1' : (if p2 < 0 then (0 : Int32) else if 9999999 < p2 then 0 else 1) = 0 := r1
    exact ⟨-1000, S, S, by rw [rq_yes e4 q0 q1, bI_eq, if_neg one, time_spec, bI_eq, r1', if_pos rfl], by rw [mq_yes e3 q0 q1, bI_eq, if_neg one, mtime_spec, bI_eq, r1', if_pos rfl], h.step⟩
  have r1' : (if p2 < 0 then (0 : Int32) else if 9999999 < p2 then 0 else 1) = 1 := r1
  subst ep
  rw [rq_yes e4 q0 q1, bI_eq, if_neg one, time_spec, bI_eq, r1', if_neg one]
  have pap : ∀ x : Int32, ∃ b : Int32, f_PaperBox_isKnown x (nI n) S = some (b, S) ∧ f_Md_isPaper x S = some (b, S) ∧ (¬ b = 0 → b = 1 ∧ ∃ k, k < nK S ∧ x = nI k ∧ ¬ nI n < gi S 30 k) := fun x => by
    rcases isk_spec (n := nI n) (x := x) d1 d3 with ⟨k, hk, ek, i1⟩ | ⟨hno, i1⟩
    · refine ⟨_, i1, ?_, fun hb => ?_⟩
      · rw [ek, isp_yes d1 hk d2 kS, (d4 k hk).2.2.2.2.2.2.1]
      · by_cases z : nI n < gi S 30 k
        · rw [if_pos z] at hb; exact absurd rfl hb
        · exact ⟨if_neg z, k, hk, ek, z⟩
    · exact ⟨0, i1, isp_no d2 hno, fun hb => absurd rfl hb⟩
  obtain ⟨b3, x1, x2, x3⟩ := pap p3
  obtain ⟨b4, y1, y2, y3⟩ := pap p4
  by_cases heq : p3 = p4
  · refine ⟨-1000, S, S, by rw [if_pos heq], ?_, h.step⟩
    rw [mq_yes e3 q0 q1, bI_eq, if_neg one, mtime_spec, bI_eq, r1', if_neg one, x2, bI_eq]
    by_cases hb3 : b3 = 0
    · rw [if_pos hb3]
    · rw [if_neg hb3, y2, bI_eq]
      by_cases hb4 : b4 = 0
      · rw [if_pos hb4]
      · rw [if_neg hb4, if_pos heq]
  rw [if_neg heq, x1, bI_eq]
  by_cases hb3 : b3 = 0
  · refine ⟨-1000, S, S, by rw [if_pos hb3], ?_, h.step⟩
    rw [mq_yes e3 q0 q1, bI_eq, if_neg one, mtime_spec, bI_eq, r1', if_neg one, x2, bI_eq, if_pos hb3]
  rw [if_neg hb3, y1, bI_eq]
  by_cases hb4 : b4 = 0
  · refine ⟨-1000, S, S, by rw [if_pos hb4], ?_, h.step⟩
    rw [mq_yes e3 q0 q1, bI_eq, if_neg one, mtime_spec, bI_eq, r1', if_neg one, x2, bI_eq, if_neg hb3, y2, bI_eq, if_pos hb4]
  rw [if_neg hb4]
  obtain ⟨-, a, ha, ea, la⟩ := x3 hb3
  obtain ⟨-, b, hb, eb, lb⟩ := y3 hb4
  subst ea eb
  have hab : ¬ a = b := fun z => heq (by rw [z])
  obtain ⟨T, D, W, kn, P, K, M, l, t1, t2, t3, t4, t5, t6, t7, t8, t9⟩ := tell_ok h hn (u := p2) ⟨t, ht, et⟩
  have eT : ∀ c k, c ≤ 48 ∨ 60 ≤ c → gi T c k = gi S c k := fun c k hc => t2.2.1 c k (by unfold pCT; omega)
  obtain ⟨q2, q3, q4⟩ := t4.eqs
  have nQT : nQ T = nQ S := by unfold nQ; rw [eT 70 4 (by omega)]
  have nKT : nK T = nK S := by unfold nK; rw [eT 70 11 (by omega)]
  have nNT : nN T = nN S := by unfold nN; rw [eT 70 6 (by omega)]
  have ka : kn a := kn_of t3 t4 (by omega) (by rw [eT 30 a (by omega)]; exact la)
  have kb : kn b := kn_of t3 t4 (by omega) (by rw [eT 30 b (by omega)]; exact lb)
  have hcs : CSt T D W kn P K := CSt.of t3.2.2.1 t3.2.2.2.2.2.1 t3.2.2.2.2.2.2.2.2.2.2.2.2.1 t4.2.2.1
  obtain ⟨T', v1, v2, v3⟩ := cl_duelF t4.1 hcs (XOK.dat t4) t5 t6 (show p < mQ D by omega) ka kb hab
  have t4' : DAT T' n p2 D W kn P K M l := t4.fg (fun c k hc => v2.2.1 c k (by unfold pCl; omega))
  obtain ⟨U, g1, g2, g3⟩ := goes_ok t4'
  have fT' : ∀ c k, c ≤ 48 ∨ 60 ≤ c → gi T' c k = gi S c k := fun c k hc => by rw [v2.2.1 c k (by unfold pCl; omega)]; exact eT c k hc
  have fall : fr pBy T (si U 85 p (-1)) := ((v2.mono (fun c k h => by unfold pCl at h; unfold pBy; omega)).tr (g2.mono (fun c k h => by unfold pMG at h; unfold pBy; omega))).si (by unfold pBy; omega)
  have f2 : fr pMG T' (si U 85 p (-1)) := g2.si (by unfold pMG; omega)
  refine ⟨mDec D (si (mrun D l M) 85 p (-1)) p a b p2, T', si U 85 p (-1), ?_, ?_, (t3.keep fall (by omega) t7 t8 t9 t4 t6 (v3.cg (fun c k h1 h2 => f2.2.1 c k (by unfold pMG; omega)) (fun k => f2.2.2.1 53 k (by unfold pMG; omega)))).step⟩
  · rw [t1, bV_eq, v1, bI_eq]
  · have e3' : gi T' 70 4 = nI (nQ S) := by rw [fT' 70 4 (by omega)]; exact e3
    have d2' : gi T' 70 11 = nI (nK S) := by rw [fT' 70 11 (by omega)]; exact d2
    have kT := k2 T' (fT' 70 14 (by omega)) (fT' 70 6 (by omega))
    have ia : f_Md_isPaper (nI a) T' = some (1, T') := by rw [isp_yes d1 ha d2' kT, fT' 78 _ (by omega), ← (d4 a ha).2.2.2.2.2.2.1, if_neg la]
    have ib : f_Md_isPaper (nI b) T' = some (1, T') := by rw [isp_yes d1 hb d2' kT, fT' 78 _ (by omega), ← (d4 b hb).2.2.2.2.2.2.1, if_neg lb]
    have hst : MSt (si U 85 p (-1)) D W kn P K := t4'.2.2.1.frMG f2
    have hrm : RM (si U 85 p (-1)) D P K (si (mrun D l M) 85 p (-1)) := g3.si 85 p (-1)
    rw [mq_yes e3' q0 q1, bI_eq, if_neg one, mtime_spec, bI_eq, r1', if_neg one, ia, bI_eq, if_neg one, ib, bI_eq, if_neg one, if_neg heq, kT, bI_eq, g1, bV_eq, chk_pos (in_nI (by omega) (by decide)), ix_nI (by omega), md_dec t4.1 hst hrm (show p < mQ D by omega) ka kb, bI_eq]
