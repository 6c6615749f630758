/-! the class's course: what its cells hold -/
def CSt (S : AS) (D : DT) (W kn : Nat → Prop) (P K : Nat) : Prop := P ≤ 24 ∧ K ≤ 48 ∧ gi S 16 7 = nI (mQ D) ∧ gi S 23 8 = nI K ∧ (∀ p, p < mQ D → gi S 20 p = D 73 (3 * p) ∧ gi S 21 p = D 73 (3 * p + 1) ∧ gi S 22 p = D 73 (3 * p + 2)) ∧ (∀ w, W w → w < P ∧ gi S 17 w = D 72 (3 * w) ∧ gi S 18 w = D 72 (3 * w + 1) ∧ gi S 19 w = D 72 (3 * w + 2)) ∧ (∀ k, kn k → k < K ∧ gi S 24 k = D 78 (7 * k) ∧ gi S 25 k = D 78 (7 * k + 1) ∧ gi S 26 k = D 78 (7 * k + 2) ∧ gi S 27 k = D 78 (7 * k + 3) ∧ gi S 28 k = D 78 (7 * k + 4) ∧ gi S 29 k = D 78 (7 * k + 5))
  ∧ gi S 38 3 = nI (mR D) ∧ (∀ r, r < mR D → gi S 39 r = D 80 r ∧ ∃ q, 99 ≤ q ∧ gr S 40 r = some q ∧ BK S D r q) ∧ gi S 41 4 = 0
def FA (S : AS) (c : Nat) (D : DT) (X : AS) (p w : Nat) (b t : Int32) : Prop := (∀ s, s ≤ 6 → gi S c s = msub D X (nI s) p w b t) ∧ gi S c 7 = (if D 72 (3 * w + 2) = D 73 (3 * p) then 1 else 0) ∧ gi S c 8 = (if b = -1 then 0 else D 78 (7 * ix b + 2))
def pC0 (c k : Nat) : Prop := 50 ≤ c ∧ c ≤ 59
def pCF (c k : Nat) : Prop := c = 58 ∨ c = 59
theorem pCF_0 {S T : AS} (h : fr pCF S T) : fr pC0 S T := h.mono (fun c k h => by unfold pCF at h; unfold pC0; omega)
theorem BK.mv {S T : AS} {D : DT} {r q : Nat} (h : BK S D r q) (hq : 99 ≤ q) (hf : fr pC0 S T) : BK T D r q := by
  have e : ∀ c k, 99 ≤ c → gi T c k = gi S c k := fun c k hc => hf.2.1 c k (by unfold pC0; omega)
  unfold BK at h ⊢
  rw [e q 4 hq]
  refine ⟨h.1, fun i hi => ?_⟩
  obtain ⟨h1, h2, a, h3, h4, h5, h6⟩ := h.2 i hi
  rw [e (q + 1) i (by omega), e (q + 2) i (by omega)]
  refine ⟨h1, h2, a, h3, by rw [e (q + 3) i (by omega)]; exact h4, by rw [e (q + 4) i (by omega)]; exact h5, fun t ht => ?_⟩
  rw [e (q + 5) _ (by omega), e (q + 6) _ (by omega), e (q + 7) _ (by omega)]
  exact h6 t ht
theorem BK.mv' {S T : AS} {D : DT} {r q : Nat} (h : BK S D r q) (hq : q = 41 ∨ 99 ≤ q) (hf : fr pC0 S T) : BK T D r q := by
  have e : ∀ j k, j ≤ 7 → gi T (q + j) k = gi S (q + j) k := fun j k hj => hf.2.1 (q + j) k (by unfold pC0; omega)
  unfold BK at h ⊢
  have e0 := e 0 4 (by omega)
  rw [Nat.add_zero] at e0
  rw [e0]
  refine ⟨h.1, fun i hi => ?_⟩
  obtain ⟨h1, h2, a, h3, h4, h5, h6⟩ := h.2 i hi
  rw [e 1 i (by omega), e 2 i (by omega)]
  refine ⟨h1, h2, a, h3, by rw [e 3 i (by omega)]; exact h4, by rw [e 4 i (by omega)]; exact h5, fun t ht => ?_⟩
  rw [e 5 _ (by omega), e 6 _ (by omega), e 7 _ (by omega)]
  exact h6 t ht
theorem CSt.mv {S T : AS} {D : DT} {W kn : Nat → Prop} {P K : Nat} (h : CSt S D W kn P K) (hf : fr pC0 S T) : CSt T D W kn P K := by
  obtain ⟨s1, s2, s3, s4, s5, s6, s7, s8, s9, s10⟩ := h
  have e : ∀ c k, c < 50 → gi T c k = gi S c k := fun c k hc => hf.2.1 c k (by unfold pC0; omega)
  refine ⟨s1, s2, by rw [e 16 7 (by omega)]; exact s3, by rw [e 23 8 (by omega)]; exact s4, fun p hp => ?_, fun w hw => ?_, fun k hk => ?_, by rw [e 38 3 (by omega)]; exact s8, fun r hr => ?_, by rw [e 41 4 (by omega)]; exact s10⟩
  · rw [e 20 p (by omega), e 21 p (by omega), e 22 p (by omega)]; exact s5 p hp
  · rw [e 17 w (by omega), e 18 w (by omega), e 19 w (by omega)]; exact s6 w hw
  · rw [e 24 k (by omega), e 25 k (by omega), e 26 k (by omega), e 27 k (by omega), e 28 k (by omega), e 29 k (by omega)]; exact s7 k hk
  · rw [e 39 r (by omega)]
    obtain ⟨h1, q, h2, h3, h4⟩ := s9 r hr
    exact ⟨h1, q, h2, by rw [hf.2.2.2]; exact h3, h4.mv h2 hf⟩
theorem TB.mv {S T : AS} {D : DT} {t : Int32} {q : Nat} (h : TB S D t q) (hf : fr pC0 S T) : TB T D t q := by
  obtain ⟨h1, h2⟩ := h
  refine ⟨h1, ?_⟩
  rcases h2 with ⟨a, b⟩ | ⟨r, a, b, c⟩
  · exact Or.inl ⟨a, by rw [hf.2.1 q 4 (by unfold pC0; omega)]; exact b⟩
  · exact Or.inr ⟨r, a, b, c.mv' h1 hf⟩
theorem TR.mv {S T : AS} {D : DT} {t : Int32} (h : TR S D t) (hf : fr pC0 S T) : TR T D t := by
  obtain ⟨h1, h2, q, h3, h4⟩ := h
  exact ⟨by rw [hf.2.1 49 14 (by unfold pC0; omega)]; exact h1, h2, q, by rw [hf.2.2.2]; exact h3, h4.mv hf⟩
theorem RC.mv {S T : AS} {D : DT} {X : AS} (h : RC S D X) (hf : fr pCF S T) (hQ : mQ D ≤ 16) : RC T D X := by
  obtain ⟨h1, h2, h3⟩ := h
  refine ⟨fun p hp => ?_, fun w hw => ?_, fun k hk => ?_⟩
  · rw [hf.2.1 50 p (by unfold pCF; omega), hf.2.1 51 p (by unfold pCF; omega)]; exact h1 p hp
  · rw [hf.2.1 52 w (by unfold pCF; omega), hf.2.2.1 53 w (by unfold pCF; omega), hf.2.1 54 w (by unfold pCF; omega)]; exact h2 w hw
  · rw [hf.2.1 55 k (by unfold pCF; omega), hf.2.1 56 k (by unfold pCF; omega), hf.2.1 57 k (by unfold pCF; omega)]; exact h3 k hk
theorem mcnt_le (X : AS) (w : Int32) (n : Nat) : mcnt X w n ≤ n := by
  induction n with
  | zero => exact Nat.le_refl _
  | succ n ih => rw [mcnt]; split <;> omega
theorem bnd_nI {n N : Nat} (h : n ≤ N) : bnd (nI n) N := ⟨n, h, rfl⟩
theorem bnd.mono {x : Int32} {M N : Nat} (h : bnd x M) (hm : M ≤ N) : bnd x N := by
  obtain ⟨n, h1, h2⟩ := h
  exact ⟨n, by omega, h2⟩
theorem msub_bnd {D : DT} {W kn : Nat → Prop} {X : AS} (hd : DOK D W kn) {s p w : Nat} {b t : Int32} (hp : p < mQ D) (hw : W w) (hb : b = -1 ∨ ∃ k, kn k ∧ b = nI k) (ht : bnd t 9999999) : bnd (msub D X (nI s) p w b t) 9999999 := by
  obtain ⟨d1, d2, d3, d4, d5, d6, d7, d8⟩ := id hd
  have z : bnd 0 9999999 := ⟨0, by omega, rfl⟩
  unfold msub
  split
  · exact (d3 p hp).2.1.mono (by omega)
  split
  · exact (d3 p hp).1.mono (by omega)
  split
  · exact (d4 w hw).2.1.mono (by omega)
  split
  · exact (d4 w hw).2.2.1.mono (by omega)
  split
  · exact bnd_nI (by have := mcnt_le X (nI w) (mQ D); omega)
  split
  · split
    · exact z
    · rcases hb with hb | ⟨k, hk, hb⟩
      · exact absurd hb (by assumption)
      · rw [hb, ix_nI (by have := (d5 k hk).1; omega)]; exact (d5 k hk).2.2.1
  split
  · exact z
  · rcases hb with hb | ⟨k, hk, hb⟩
    · exact absurd hb (by assumption)
    · rw [hb, ix_nI (by have := (d5 k hk).1; omega)]
      obtain ⟨d, e1, e2⟩ := (d5 k hk).2.2.1
      obtain ⟨t', t1, t2⟩ := ht
      rw [e2, t2]
      split
      · rename_i h
        have hdt : d ≤ t' := by
          rcases Nat.lt_or_ge t' d with q | q
          · exact absurd h (nI_ge q (by omega))
          · exact q
        rw [pk_sub hdt, show (1440 : Int32) = nI 1440 from rfl, pk_div (by omega) (by omega) (by omega)]
        exact bnd_nI (by have := Nat.div_le_self (t' - d) 1440; omega)
      · exact z
/-! facts -/
def ldf (S : AS) (c : Nat) (v : Nat → Int32) : AS := si (si (si (si (si (si (si (si (si S c 0 (v 0)) c 1 (v 1)) c 2 (v 2)) c 3 (v 3)) c 4 (v 4)) c 5 (v 5)) c 6 (v 6)) c 7 (v 7)) c 8 (v 8)
def fac (D : DT) (X : AS) (p w : Nat) (b t : Int32) (s : Nat) : Int32 := if s ≤ 6 then msub D X (nI s) p w b t else if s = 7 then (if D 72 (3 * w + 2) = D 73 (3 * p) then 1 else 0) else (if b = -1 then 0 else D 78 (7 * ix b + 2))
theorem ldf_gi (S : AS) (c : Nat) (v : Nat → Int32) (k : Nat) (hk : k ≤ 8) : gi (ldf S c v) c k = v k := by
  unfold ldf
  simp only [gi_si, true_and]
  rcases Nat.lt_or_ge k 8 with h | h
  · rcases Nat.lt_or_ge k 7 with h | h
    · rcases Nat.lt_or_ge k 6 with h | h
      · rcases Nat.lt_or_ge k 5 with h | h
        · rcases Nat.lt_or_ge k 4 with h | h
          · rcases Nat.lt_or_ge k 3 with h | h
            · rcases Nat.lt_or_ge k 2 with h | h
              · rcases Nat.lt_or_ge k 1 with h | h
                · have e : k = 0 := by omega
                  subst e; simp
                · have e : k = 1 := by omega
                  subst e; simp
              · have e : k = 2 := by omega
                subst e; simp
            · have e : k = 3 := by omega
              subst e; simp
          · have e : k = 4 := by omega
            subst e; simp
        · have e : k = 5 := by omega
          subst e; simp
      · have e : k = 6 := by omega
        subst e; simp
    · have e : k = 7 := by omega
      subst e; simp
  · have e : k = 8 := by omega
    subst e; simp
theorem ldf_fr {P : Nat → Nat → Prop} {S : AS} {c : Nat} (v : Nat → Int32) (h : ∀ k, P c k) : fr P S (ldf S c v) := by
  unfold ldf
  exact fr.si (fr.si (fr.si (fr.si (fr.si (fr.si (fr.si (fr.si (fr.si (fr_rf P S) (h 0)) (h 1)) (h 2)) (h 3)) (h 4)) (h 5)) (h 6)) (h 7)) (h 8)
theorem ldf_FA (S : AS) (c : Nat) (D : DT) (X : AS) (p w : Nat) (b t : Int32) : FA (ldf S c (fac D X p w b t)) c D X p w b t := by
  refine ⟨fun s hs => ?_, ?_, ?_⟩
  · rw [ldf_gi _ _ _ s (by omega), fac, if_pos hs]
  · rw [ldf_gi _ _ _ 7 (by omega), fac, if_neg (by omega), if_pos rfl]
  · rw [ldf_gi _ _ _ 8 (by omega), fac, if_neg (by omega), if_neg (by omega)]
theorem cl_facts_58 {S : AS} {D : DT} {W kn : Nat → Prop} {P K : Nat} {X : AS} {t : Int32} (hd : DOK D W kn) (hs : CSt S D W kn P K) (hr : RC S D X) (ht : gi S 49 14 = t) {p w : Nat} {b : Int32} (hp : p < mQ D) (hw : W w) (hb : b = -1 ∨ ∃ k, kn k ∧ b = nI k) : f_Course_loadFacts_58 (nI p) (nI w) b S = some (ldf S 58 (fac D X p w b t)) := by
  obtain ⟨d1, d2, d3, d4, d5, d6, d7, d8⟩ := id hd
  obtain ⟨s1, s2, s3, s4, s5, s6, s7, s8, s9, s10⟩ := id hs
  obtain ⟨w0, w1, w2, w3⟩ := s6 w hw
  obtain ⟨p1, p2, p3⟩ := s5 p hp
  have c0 : vp_in (0 : Int32) 9 := in_nI (n := 0) (by omega) (by decide)
  have c1 : vp_in (1 : Int32) 9 := in_nI (n := 1) (by omega) (by decide)
  have c2 : vp_in (2 : Int32) 9 := in_nI (n := 2) (by omega) (by decide)
  have c3 : vp_in (3 : Int32) 9 := in_nI (n := 3) (by omega) (by decide)
  have c4 : vp_in (4 : Int32) 9 := in_nI (n := 4) (by omega) (by decide)
  have c5 : vp_in (5 : Int32) 9 := in_nI (n := 5) (by omega) (by decide)
  have c6 : vp_in (6 : Int32) 9 := in_nI (n := 6) (by omega) (by decide)
  have c7 : vp_in (7 : Int32) 9 := in_nI (n := 7) (by omega) (by decide)
  have c8 : vp_in (8 : Int32) 9 := in_nI (n := 8) (by omega) (by decide)
  have cp : vp_in (nI p) 16 := in_nI (by omega) (by decide)
  have cw : vp_in (nI w) 24 := in_nI (by omega) (by decide)
  have i0 : ix (0 : Int32) = 0 := rfl
  have i1 : ix (1 : Int32) = 1 := rfl
  have i2 : ix (2 : Int32) = 2 := rfl
  have i3 : ix (3 : Int32) = 3 := rfl
  have i4 : ix (4 : Int32) = 4 := rfl
  have i5 : ix (5 : Int32) = 5 := rfl
  have i6 : ix (6 : Int32) = 6 := rfl
  have i7 : ix (7 : Int32) = 7 := rfl
  have i8 : ix (8 : Int32) = 8 := rfl
  have ip : ix (nI p) = p := ix_nI (by omega)
  have iw : ix (nI w) = w := ix_nI (by omega)
  have e0 : fac D X p w b t 0 = gi S 21 p := by rw [fac, if_pos (by omega), msub, if_pos (by decide), p2]
  have e1 : fac D X p w b t 1 = gi S 20 p := by rw [fac, if_pos (by omega), msub, if_neg (by decide), if_pos (by decide), p1]
  have e2 : fac D X p w b t 2 = gi S 17 w := by rw [fac, if_pos (by omega), msub, if_neg (by decide), if_neg (by decide), if_pos (by decide), w1]
  have e3 : fac D X p w b t 3 = gi S 18 w := by rw [fac, if_pos (by omega), msub, if_neg (by decide), if_neg (by decide), if_neg (by decide), if_pos (by decide), w2]
  have e4 : fac D X p w b t 4 = gi S 52 w := by rw [fac, if_pos (by omega), msub, if_neg (by decide), if_neg (by decide), if_neg (by decide), if_neg (by decide), if_pos (by decide), (hr.2.1 w (by omega)).1]
  have e7 : fac D X p w b t 7 = if gi S 19 w = gi S 20 p then 1 else 0 := by rw [fac, if_neg (by omega), if_pos rfl, w3, p1]
  rcases hb with hb | ⟨k, hk, hb⟩
  · have e5 : fac D X p w b t 5 = 0 := by rw [fac, if_pos (by omega), msub, if_neg (by decide), if_neg (by decide), if_neg (by decide), if_neg (by decide), if_neg (by decide), if_pos (by decide), if_pos hb]
    have e6 : fac D X p w b t 6 = 0 := by rw [fac, if_pos (by omega), msub, if_neg (by decide), if_neg (by decide), if_neg (by decide), if_neg (by decide), if_neg (by decide), if_neg (by decide), if_pos hb]
    have e8 : fac D X p w b t 8 = 0 := by rw [fac, if_neg (by omega), if_neg (by omega), if_pos hb]
    unfold f_Course_loadFacts_58 ldf
    rw [e0, e1, e2, e3, e4, e5, e6, e7, e8]
    simp only [nm_eq, if_pos hb, chk_pos c0, chk_pos c1, chk_pos c2, chk_pos c3, chk_pos c4, chk_pos c5, chk_pos c6, chk_pos c7, chk_pos c8, chk_pos cp, chk_pos cw, i0, i1, i2, i3, i4, i5, i6, i7, i8, ip, iw, gi_si, Nat.reduceEqDiff, false_and, if_false]
    by_cases hh : gi S 19 w = gi S 20 p
    · rw [if_pos hh, if_pos hh]
    · rw [if_neg hh, if_neg hh]
  · have hk48 := (d5 k hk).1
    obtain ⟨k0, k1, k2, k3, -⟩ := s7 k hk
    have hn : ¬ b = -1 := by rw [hb]; exact nI_ne_m1 (by omega)
    have ck : vp_in b 48 := by rw [hb]; exact in_nI hk48 (by decide)
    have ik : ix b = k := by rw [hb]; exact ix_nI (by omega)
    have e5 : fac D X p w b t 5 = gi S 25 k := by rw [fac, if_pos (by omega), msub, if_neg (by decide), if_neg (by decide), if_neg (by decide), if_neg (by decide), if_neg (by decide), if_pos (by decide), if_neg hn, ik, k2]
    have e6 : fac D X p w b t 6 = if gi S 25 k ≤ gi S 49 14 then (gi S 49 14 - gi S 25 k) / 1440 else 0 := by rw [fac, if_pos (by omega), msub, if_neg (by decide), if_neg (by decide), if_neg (by decide), if_neg (by decide), if_neg (by decide), if_neg (by decide), if_neg hn, ik, k2, ht]
    have e8 : fac D X p w b t 8 = gi S 26 k := by rw [fac, if_neg (by omega), if_neg (by omega), if_neg hn, ik, k3]
    unfold f_Course_loadFacts_58 ldf
    rw [e0, e1, e2, e3, e4, e5, e6, e7, e8]
    simp only [nm_eq, if_neg hn, chk_pos c0, chk_pos c1, chk_pos c2, chk_pos c3, chk_pos c4, chk_pos c5, chk_pos c6, chk_pos c7, chk_pos c8, chk_pos cp, chk_pos cw, chk_pos ck, i0, i1, i2, i3, i4, i5, i6, i7, i8, ip, iw, ik, gi_si, Nat.reduceEqDiff, false_and, if_false]
    by_cases hh : gi S 19 w = gi S 20 p
    · by_cases h6 : gi S 25 k ≤ gi S 49 14
      · simp only [if_pos hh, if_pos h6]
      · simp only [if_pos hh, if_neg h6]
    · by_cases h6 : gi S 25 k ≤ gi S 49 14
      · simp only [if_neg hh, if_pos h6]
      · simp only [if_neg hh, if_neg h6]
theorem cl_facts_59 {S : AS} {D : DT} {W kn : Nat → Prop} {P K : Nat} {X : AS} {t : Int32} (hd : DOK D W kn) (hs : CSt S D W kn P K) (hr : RC S D X) (ht : gi S 49 14 = t) {p w : Nat} {b : Int32} (hp : p < mQ D) (hw : W w) (hb : b = -1 ∨ ∃ k, kn k ∧ b = nI k) : f_Course_loadFacts_59 (nI p) (nI w) b S = some (ldf S 59 (fac D X p w b t)) := by
  obtain ⟨d1, d2, d3, d4, d5, d6, d7, d8⟩ := id hd
  obtain ⟨s1, s2, s3, s4, s5, s6, s7, s8, s9, s10⟩ := id hs
  obtain ⟨w0, w1, w2, w3⟩ := s6 w hw
  obtain ⟨p1, p2, p3⟩ := s5 p hp
  have c0 : vp_in (0 : Int32) 9 := in_nI (n := 0) (by omega) (by decide)
  have c1 : vp_in (1 : Int32) 9 := in_nI (n := 1) (by omega) (by decide)
  have c2 : vp_in (2 : Int32) 9 := in_nI (n := 2) (by omega) (by decide)
  have c3 : vp_in (3 : Int32) 9 := in_nI (n := 3) (by omega) (by decide)
  have c4 : vp_in (4 : Int32) 9 := in_nI (n := 4) (by omega) (by decide)
  have c5 : vp_in (5 : Int32) 9 := in_nI (n := 5) (by omega) (by decide)
  have c6 : vp_in (6 : Int32) 9 := in_nI (n := 6) (by omega) (by decide)
  have c7 : vp_in (7 : Int32) 9 := in_nI (n := 7) (by omega) (by decide)
  have c8 : vp_in (8 : Int32) 9 := in_nI (n := 8) (by omega) (by decide)
  have cp : vp_in (nI p) 16 := in_nI (by omega) (by decide)
  have cw : vp_in (nI w) 24 := in_nI (by omega) (by decide)
  have i0 : ix (0 : Int32) = 0 := rfl
  have i1 : ix (1 : Int32) = 1 := rfl
  have i2 : ix (2 : Int32) = 2 := rfl
  have i3 : ix (3 : Int32) = 3 := rfl
  have i4 : ix (4 : Int32) = 4 := rfl
  have i5 : ix (5 : Int32) = 5 := rfl
  have i6 : ix (6 : Int32) = 6 := rfl
  have i7 : ix (7 : Int32) = 7 := rfl
  have i8 : ix (8 : Int32) = 8 := rfl
  have ip : ix (nI p) = p := ix_nI (by omega)
  have iw : ix (nI w) = w := ix_nI (by omega)
  have e0 : fac D X p w b t 0 = gi S 21 p := by rw [fac, if_pos (by omega), msub, if_pos (by decide), p2]
  have e1 : fac D X p w b t 1 = gi S 20 p := by rw [fac, if_pos (by omega), msub, if_neg (by decide), if_pos (by decide), p1]
  have e2 : fac D X p w b t 2 = gi S 17 w := by rw [fac, if_pos (by omega), msub, if_neg (by decide), if_neg (by decide), if_pos (by decide), w1]
  have e3 : fac D X p w b t 3 = gi S 18 w := by rw [fac, if_pos (by omega), msub, if_neg (by decide), if_neg (by decide), if_neg (by decide), if_pos (by decide), w2]
  have e4 : fac D X p w b t 4 = gi S 52 w := by rw [fac, if_pos (by omega), msub, if_neg (by decide), if_neg (by decide), if_neg (by decide), if_neg (by decide), if_pos (by decide), (hr.2.1 w (by omega)).1]
  have e7 : fac D X p w b t 7 = if gi S 19 w = gi S 20 p then 1 else 0 := by rw [fac, if_neg (by omega), if_pos rfl, w3, p1]
  rcases hb with hb | ⟨k, hk, hb⟩
  · have e5 : fac D X p w b t 5 = 0 := by rw [fac, if_pos (by omega), msub, if_neg (by decide), if_neg (by decide), if_neg (by decide), if_neg (by decide), if_neg (by decide), if_pos (by decide), if_pos hb]
    have e6 : fac D X p w b t 6 = 0 := by rw [fac, if_pos (by omega), msub, if_neg (by decide), if_neg (by decide), if_neg (by decide), if_neg (by decide), if_neg (by decide), if_neg (by decide), if_pos hb]
    have e8 : fac D X p w b t 8 = 0 := by rw [fac, if_neg (by omega), if_neg (by omega), if_pos hb]
    unfold f_Course_loadFacts_59 ldf
    rw [e0, e1, e2, e3, e4, e5, e6, e7, e8]
    simp only [nm_eq, if_pos hb, chk_pos c0, chk_pos c1, chk_pos c2, chk_pos c3, chk_pos c4, chk_pos c5, chk_pos c6, chk_pos c7, chk_pos c8, chk_pos cp, chk_pos cw, i0, i1, i2, i3, i4, i5, i6, i7, i8, ip, iw, gi_si, Nat.reduceEqDiff, false_and, if_false]
    by_cases hh : gi S 19 w = gi S 20 p
    · rw [if_pos hh, if_pos hh]
    · rw [if_neg hh, if_neg hh]
  · have hk48 := (d5 k hk).1
    obtain ⟨k0, k1, k2, k3, -⟩ := s7 k hk
    have hn : ¬ b = -1 := by rw [hb]; exact nI_ne_m1 (by omega)
    have ck : vp_in b 48 := by rw [hb]; exact in_nI hk48 (by decide)
    have ik : ix b = k := by rw [hb]; exact ix_nI (by omega)
    have e5 : fac D X p w b t 5 = gi S 25 k := by rw [fac, if_pos (by omega), msub, if_neg (by decide), if_neg (by decide), if_neg (by decide), if_neg (by decide), if_neg (by decide), if_pos (by decide), if_neg hn, ik, k2]
    have e6 : fac D X p w b t 6 = if gi S 25 k ≤ gi S 49 14 then (gi S 49 14 - gi S 25 k) / 1440 else 0 := by rw [fac, if_pos (by omega), msub, if_neg (by decide), if_neg (by decide), if_neg (by decide), if_neg (by decide), if_neg (by decide), if_neg (by decide), if_neg hn, ik, k2, ht]
    have e8 : fac D X p w b t 8 = gi S 26 k := by rw [fac, if_neg (by omega), if_neg (by omega), if_neg hn, ik, k3]
    unfold f_Course_loadFacts_59 ldf
    rw [e0, e1, e2, e3, e4, e5, e6, e7, e8]
    simp only [nm_eq, if_neg hn, chk_pos c0, chk_pos c1, chk_pos c2, chk_pos c3, chk_pos c4, chk_pos c5, chk_pos c6, chk_pos c7, chk_pos c8, chk_pos cp, chk_pos cw, chk_pos ck, i0, i1, i2, i3, i4, i5, i6, i7, i8, ip, iw, ik, gi_si, Nat.reduceEqDiff, false_and, if_false]
    by_cases hh : gi S 19 w = gi S 20 p
    · by_cases h6 : gi S 25 k ≤ gi S 49 14
      · simp only [if_pos hh, if_pos h6]
      · simp only [if_pos hh, if_neg h6]
    · by_cases h6 : gi S 25 k ≤ gi S 49 14
      · simp only [if_neg hh, if_pos h6]
      · simp only [if_neg hh, if_neg h6]
/-! rules -/
theorem cl_holds {S : AS} {D : DT} {W kn : Nat → Prop} {X : AS} {p w : Nat} {b t : Int32} (hd : DOK D W kn) (hf : FA S 58 D X p w b t) {r n i q : Nat} (hr6 : r < mR D) (hn : D 81 r = nI n) (hn16 : n ≤ 16) (hi : i < n) (hB : BK S D r q) : f_RuleBook_testsHold_58 q (nI i) S = some (mhl D X r i p w b t, S) := by
  obtain ⟨d1, d2, d3, d4, d5, d6, d7, d8⟩ := id hd
  obtain ⟨n', n1, n2, n3, n4, n5, n6⟩ := d8 r hr6
  have en : n' = n := nI_inj (by omega) (by omega) (n2.symm.trans hn)
  subst en
  obtain ⟨c, k, c1, c2, q1, q2, q3, q4, ct⟩ := n6 i hi
  obtain ⟨b1, b2, a, b3, b4, b5, b6⟩ := hB.2 i (by rw [n2, ix_nI (by omega)]; exact hi)
  rw [c2, ix_nI (show c < 2147483648 by omega)] at b3 b5 b6
  unfold mhl
  rw [c2, ix_nI (by omega)]
  have hin : vp_in (nI i) 16 := in_nI (by omega) (by decide)
  have key : ∀ (J : AS → Option (Int32 × AS)) (hJ : J S = some (1, S)) (f j : Nat), j ≤ c → c - j < f → mhol D X (mof D r i) p w b t j = 1 → f_RuleBook_testsHold_58_L7 q J (nI i) f (nI (a + j)) S = some (mhol D X (mof D r i) p w b t c, S) := by
    intro J hJ f
    induction f with
    | zero => intro j _ h; omega
    | succ f ih =>
      intro j hj hf2 hm1
      rw [f_RuleBook_testsHold_58_L7, chk_pos hin, ix_nI (by omega), b5]
      rcases Nat.lt_or_ge j c with g | g
      · obtain ⟨s, t1, t2, t3, t4⟩ := ct j g
        obtain ⟨x1, x2, x3⟩ := b6 j g
        rw [if_neg (nI_ge (by omega) (by omega)), chk_pos (in_nI (by omega) (by decide)), ix_nI (by omega), x1, t3, chk_pos (in_nI (by omega) (by decide)), ix_nI (by omega), hf.1 s t1]
        simp only [nm_eq]
        have h64 : vp_in (nI (a + j)) 64 := in_nI (by omega) (by decide)
        simp only [chk_pos h64]
        rw [x2, x3, nI_1, show a + j + 1 = a + (j + 1) by omega]
        have e := ih (j + 1) (by omega) (by omega)
        rw [mhol, hm1, if_neg (by decide), mtst, t3] at e
        have ez : mtst D X (mof D r i + 3 * (j + 1)) p w b t = 0 → mhol D X (mof D r i) p w b t c = 0 := fun z => mhol_zero (i := j + 1) g (by rw [mhol, hm1, if_neg (by decide)]; exact z)
        rw [mtst, t3] at ez
        generalize D 83 (mof D r i + 3 * (j + 1) + 2) = N at *
        generalize msub D X (nI s) p w b t = V at *
        rcases t4 with h | h | h
        · rw [h] at e ez ⊢
          rw [if_pos rfl] at e ez
          by_cases y1 : N ≤ V
          · rw [if_pos y1] at e ez ⊢
            rw [ez rfl]
            by_cases y2 : V ≤ N
            · rw [if_pos y2, if_neg (by decide)]
            · rw [if_neg y2, if_neg (by decide)]
          · rw [if_neg y1] at e ⊢
            rw [if_pos (by decide)]
            exact e rfl
        · rw [h] at e ez ⊢
          rw [if_neg (by decide), if_neg (by decide)] at e ez
          by_cases y1 : N ≤ V
          · rw [if_pos y1]
            by_cases y2 : V ≤ N
            · rw [if_pos y2, if_pos (by decide)]
              rw [if_pos (Int32.le_antisymm y2 y1)] at e
              exact e rfl
            · rw [if_neg y2, if_neg (by decide)]
              rw [if_neg (fun z => y2 (by rw [z]; exact Int32.le_refl _))] at ez
              rw [ez rfl]
          · rw [if_neg y1, if_neg (by decide)]
            rw [if_neg (fun z => y1 (by rw [z]; exact Int32.le_refl _))] at ez
            rw [ez rfl]
        · rw [h] at e ez ⊢
          rw [if_neg (by decide), if_pos rfl] at e ez
          by_cases y1 : N ≤ V
          · rw [if_pos y1]
            by_cases y2 : V ≤ N
            · rw [if_pos y2, if_neg (by decide)]
              rw [if_pos y2] at ez
              rw [ez rfl]
            · rw [if_neg y2, if_pos (by decide)]
              rw [if_neg y2] at e
              exact e rfl
          · rw [if_neg y1, if_neg (by decide)]
            rw [if_pos (Int32.le_of_lt (Int32.not_le.mp y1))] at ez
            rw [ez rfl]
      · rw [if_pos (nI_le (by omega) (by omega)), hJ]
        have e : j = c := by omega
        subst e
        rw [hm1]
  unfold f_RuleBook_testsHold_58
  rw [chk_pos hin, ix_nI (by omega), b4]
  simp only [nm_k]
  exact key _ rfl FU 0 (by omega) (by rw [FU_succ]; omega) rfl
theorem cl_rbars {S : AS} {D : DT} {W kn : Nat → Prop} {X : AS} {p w : Nat} {b t : Int32} (hd : DOK D W kn) (hf : FA S 58 D X p w b t) {r n q : Nat} (hr6 : r < mR D) (hn : D 81 r = nI n) (hn16 : n ≤ 16) (hB : BK S D r q) : f_RuleBook_bars_58 q S = some (mbar D X r p w b t n 0, S) := by
  obtain ⟨n', n1, n2, n3, n4, n5, n6⟩ := hd.2.2.2.2.2.2.2 r hr6
  have en : n' = n := nI_inj (by omega) (by omega) (n2.symm.trans hn)
  subst en
  have key : ∀ (J : AS → Option (Int32 × AS)) (hJ : J S = some (0, S)) (f i : Nat), i ≤ n' → n' - i < f → f_RuleBook_bars_58_L2 q J f (nI i) S = some (mbar D X r p w b t (n' - i) i, S) := by
    intro J hJ f
    induction f with
    | zero => intro j _ h; omega
    | succ f ih =>
      intro i hi hf2
      rw [f_RuleBook_bars_58_L2, hB.1, hn]
      rcases Nat.lt_or_ge i n' with g | g
      · obtain ⟨b1, -⟩ := hB.2 i (by rw [n2, ix_nI (by omega)]; exact g)
        obtain ⟨c, k, c1, c2, q1, q2, -⟩ := n6 i g
        rw [if_neg (nI_ge g (by omega)), chk_pos (in_nI (by omega) (by decide)), ix_nI (by omega), b1]
        simp only [nm_eq]
        rw [nI_1, cl_holds hd hf hr6 hn hn16 g hB, bI_eq, ih (i + 1) (by omega) (by omega), show n' - i = (n' - (i + 1)) + 1 by omega, mbar]
        by_cases h4 : D 83 (mof D r i) = 4
        · rw [if_pos h4, h4, if_pos (by decide)]
          by_cases hz : mhl D X r i p w b t = 0
          · rw [if_pos hz, if_pos hz]
          · rw [if_neg hz, if_neg hz]
        · rw [if_neg h4, if_neg]
          intro z
          apply h4
          rw [q2] at z ⊢
          have z2 : nI (k + 7) = nI 11 := by rw [← nI_add k 7]; exact z
          rw [show k = 4 by have := nI_inj (by omega) (by omega) z2; omega]; rfl
      · rw [if_pos (nI_le g (by omega)), hJ]
        have e : i = n' := by omega
        subst e
        rw [Nat.sub_self, mbar]
  unfold f_RuleBook_bars_58
  simp only [nm_k]
  exact key _ rfl FU 0 (by omega) (by rw [FU_succ]; omega)
theorem cl_bars {S : AS} {D : DT} {W kn : Nat → Prop} {X : AS} {p w : Nat} {b t : Int32} (hd : DOK D W kn) (hf : FA S 58 D X p w b t) {q : Nat} (hT : TB S D t q) : f_RuleBook_bars_58 q S = some (mB D X p w b t, S) := by
  rcases hT.2 with ⟨h1, h2⟩ | ⟨r, h1, h2, h3⟩
  · unfold mB f_RuleBook_bars_58
    simp only [nm_eq]
    rw [h1, if_pos rfl, FU_succ, f_RuleBook_bars_58_L2, h2, if_pos (by decide)]
  · have hr6 := hd.2.2.2.2.2.1
    obtain ⟨n', n1, n2, -⟩ := hd.2.2.2.2.2.2.2 r h1
    unfold mB
    rw [h2, if_neg (nI_ne_m1 (by omega)), ix_nI (by omega), n2, ix_nI (by omega)]
    exact cl_rbars hd hf h1 n2 n1 h3
def mst (D : DT) (X : AS) (o p w : Nat) (b t : Int32) : Int32 := if D 83 o = 0 then ((if b = -1 then 0 else D 78 (7 * ix b + 2)) >>> (D 83 (o + 1) &&& 31)) &&& 1 else if D 83 o = 1 then (if D 72 (3 * w + 2) = D 73 (3 * p) then 1 else 0) else if D 83 o = 2 then msub D X (D 83 (o + 1)) p w b t else -(msub D X (D 83 (o + 1)) p w b t)
theorem cl_stand_58 {S : AS} {D : DT} {W kn : Nat → Prop} {X : AS} {p w : Nat} {b t : Int32} (hd : DOK D W kn) (hf : FA S 58 D X p w b t) {r n i q : Nat} (hr6 : r < mR D) (hn : D 81 r = nI n) (hn16 : n ≤ 16) (hi : i < n) (h4 : ¬ D 83 (mof D r i) = 4) (hB : BK S D r q) : f_RuleBook_standing_58 q (nI i) S = some (mst D X (mof D r i) p w b t, S) := by
  obtain ⟨n', n1, n2, n3, n4, n5, n6⟩ := hd.2.2.2.2.2.2.2 r hr6
  have en : n' = n := nI_inj (by omega) (by omega) (n2.symm.trans hn)
  subst en
  obtain ⟨c, k, c1, c2, q1, q2, q3, q4, ct⟩ := n6 i hi
  obtain ⟨b1, b2, -⟩ := hB.2 i (by rw [n2, ix_nI (by omega)]; exact hi)
  have hin : vp_in (nI i) 16 := in_nI (by omega) (by decide)
  have c8 : vp_in (8 : Int32) 9 := in_nI (n := 8) (by omega) (by decide)
  have c7 : vp_in (7 : Int32) 9 := in_nI (n := 7) (by omega) (by decide)
  unfold f_RuleBook_standing_58 mst
  rw [chk_pos hin, ix_nI (by omega), b1, show ix (8 : Int32) = 8 from rfl, show ix (7 : Int32) = 7 from rfl, hf.2.1, hf.2.2, chk_pos c8, chk_pos c7, chk_pos hin, chk_pos hin]
  rcases Nat.lt_or_ge k 1 with z | z
  · have hk : D 83 (mof D r i) = 0 := by rw [q2, show k = 0 by omega]; rfl
    rw [hk, if_pos (by decide), if_pos rfl, b2 (by rw [hk]; decide) (by rw [hk]; decide)]
  rcases Nat.lt_or_ge k 2 with z | z
  · have hk : D 83 (mof D r i) = 1 := by rw [q2, show k = 1 by omega]; rfl
    rw [hk, if_neg (show ¬ (1 : Int32) + 7 = 7 by decide), if_pos (show (1 : Int32) + 7 = 8 by decide), if_neg (show ¬ (1 : Int32) = 0 by decide), if_pos (show (1 : Int32) = 1 from rfl)]
  have k4 : k < 4 := by
    rcases Nat.lt_or_ge k 4 with y | y
    · exact y
    · exact absurd (by rw [q2, show k = 4 by omega]; rfl) h4
  obtain ⟨s, s1, s2⟩ := q4 (by omega)
  rcases Nat.lt_or_ge k 3 with z | z
  · have hk : D 83 (mof D r i) = 2 := by rw [q2, show k = 2 by omega]; rfl
    rw [hk, if_neg (by decide), if_neg (by decide), if_pos (by decide), if_neg (by decide), if_neg (by decide), if_pos rfl, b2 (by rw [hk]; decide) (by rw [hk]; decide), s2, chk_pos (in_nI (by omega) (by decide)), ix_nI (by omega), hf.1 s s1]
  · have hk : D 83 (mof D r i) = 3 := by rw [q2, show k = 3 by omega]; rfl
    rw [hk, if_neg (by decide), if_neg (by decide), if_neg (by decide), if_pos (by decide), if_neg (by decide), if_neg (by decide), if_neg (by decide), b2 (by rw [hk]; decide) (by rw [hk]; decide), s2, chk_pos (in_nI (by omega) (by decide)), chk_pos (in_nI (by omega) (by decide)), ix_nI (by omega), hf.1 s s1]
theorem cl_stand_59 {S : AS} {D : DT} {W kn : Nat → Prop} {X : AS} {p w : Nat} {b t : Int32} (hd : DOK D W kn) (hf : FA S 59 D X p w b t) {r n i q : Nat} (hr6 : r < mR D) (hn : D 81 r = nI n) (hn16 : n ≤ 16) (hi : i < n) (h4 : ¬ D 83 (mof D r i) = 4) (hB : BK S D r q) : f_RuleBook_standing_59 q (nI i) S = some (mst D X (mof D r i) p w b t, S) := by
  obtain ⟨n', n1, n2, n3, n4, n5, n6⟩ := hd.2.2.2.2.2.2.2 r hr6
  have en : n' = n := nI_inj (by omega) (by omega) (n2.symm.trans hn)
  subst en
  obtain ⟨c, k, c1, c2, q1, q2, q3, q4, ct⟩ := n6 i hi
  obtain ⟨b1, b2, -⟩ := hB.2 i (by rw [n2, ix_nI (by omega)]; exact hi)
  have hin : vp_in (nI i) 16 := in_nI (by omega) (by decide)
  have c8 : vp_in (8 : Int32) 9 := in_nI (n := 8) (by omega) (by decide)
  have c7 : vp_in (7 : Int32) 9 := in_nI (n := 7) (by omega) (by decide)
  unfold f_RuleBook_standing_59 mst
  rw [chk_pos hin, ix_nI (by omega), b1, show ix (8 : Int32) = 8 from rfl, show ix (7 : Int32) = 7 from rfl, hf.2.1, hf.2.2, chk_pos c8, chk_pos c7, chk_pos hin, chk_pos hin]
  rcases Nat.lt_or_ge k 1 with z | z
  · have hk : D 83 (mof D r i) = 0 := by rw [q2, show k = 0 by omega]; rfl
    rw [hk, if_pos (by decide), if_pos rfl, b2 (by rw [hk]; decide) (by rw [hk]; decide)]
  rcases Nat.lt_or_ge k 2 with z | z
  · have hk : D 83 (mof D r i) = 1 := by rw [q2, show k = 1 by omega]; rfl
    rw [hk, if_neg (show ¬ (1 : Int32) + 7 = 7 by decide), if_pos (show (1 : Int32) + 7 = 8 by decide), if_neg (show ¬ (1 : Int32) = 0 by decide), if_pos (show (1 : Int32) = 1 from rfl)]
  have k4 : k < 4 := by
    rcases Nat.lt_or_ge k 4 with y | y
    · exact y
    · exact absurd (by rw [q2, show k = 4 by omega]; rfl) h4
  obtain ⟨s, s1, s2⟩ := q4 (by omega)
  rcases Nat.lt_or_ge k 3 with z | z
  · have hk : D 83 (mof D r i) = 2 := by rw [q2, show k = 2 by omega]; rfl
    rw [hk, if_neg (by decide), if_neg (by decide), if_pos (by decide), if_neg (by decide), if_neg (by decide), if_pos rfl, b2 (by rw [hk]; decide) (by rw [hk]; decide), s2, chk_pos (in_nI (by omega) (by decide)), ix_nI (by omega), hf.1 s s1]
  · have hk : D 83 (mof D r i) = 3 := by rw [q2, show k = 3 by omega]; rfl
    rw [hk, if_neg (by decide), if_neg (by decide), if_neg (by decide), if_pos (by decide), if_neg (by decide), if_neg (by decide), if_neg (by decide), b2 (by rw [hk]; decide) (by rw [hk]; decide), s2, chk_pos (in_nI (by omega) (by decide)), chk_pos (in_nI (by omega) (by decide)), ix_nI (by omega), hf.1 s s1]
