theorem cl_tell {S : AS} {D : DT} {W kn : Nat → Prop} {P K n M : Nat} {u : Int32} {o : Nat → Nat} (hd : DOK D W kn) (hN : NOK D W kn P n) (hN2 : NOK2 D n) (hs : CSt S D W kn P K) (hc : NCt S D kn n) (hO : ORD S D n M o) (hsh : Sh S) (hu : bnd u 9999999) (hno : ¬ (gi S 49 16 = gi S 16 8 ∧ gi S 49 17 = nI n ∧ gi S 49 18 = u)) : ∃ S' m l, f_Course_tell (nI n) u S = some S' ∧ frq pCT S S' ∧ Sh S' ∧ RC S' D (mrun D l m) ∧ TR S' D u ∧ m ≤ 160 ∧ SQ D n u m l ∧ gi S' 49 16 = gi S 16 8 ∧ gi S' 49 17 = nI n ∧ gi S' 49 18 = u := by
  obtain ⟨T1, a1, a2, a3⟩ := cl_begin hd hs
  have f1 : frq pCT S T1 := pC0_T a2
  obtain ⟨T2, m, l, b1, b2, b3, b4, b5, b6⟩ := ct_loop (u := u) hd hN hN2 hs hc hO FU 0 0 (fun a => a) T1 (by omega) (by have := hO.1; rw [FU_succ]; omega) (by omega) f1 (a2.sh hsh) a3 (fun a ha => by omega) (fun a b _ h => by omega) (fun i hi => by omega)
  obtain ⟨T3, c1, c2, c3, c4, c5⟩ := cl_goTo hd (hs.mq b2) b3 b4 hu
  rw [nI_0] at b1
  have f3 : frq pCT S T3 := b2.tr (c2.mono (fun c k h => by unfold pCT; omega))
  have e8 : gi T3 16 8 = gi S 16 8 := f3.2.1 16 8 (by unfold pCT; omega)
  have fl : fr (fun c k => c = 49 ∧ 16 ≤ k) T3 (si (si (si T3 49 16 (gi T3 16 8)) 49 17 (nI n)) 49 18 u) := fr.si (fr.si (fr.si (fr_rf _ _) ⟨rfl, by omega⟩) ⟨rfl, by omega⟩) ⟨rfl, by omega⟩
  refine ⟨si (si (si T3 49 16 (gi T3 16 8)) 49 17 (nI n)) 49 18 u, m, l, ?_, f3.tr (fl.q.mono (fun c k h => by unfold pCT; omega)), fl.sh c3, c4.mq (fun c k h1 h2 => fl.2.1 c k (by omega)) (fun k => rfl), ?_, b5, b6, ?_, ?_, ?_⟩
  · unfold f_Course_tell
    rw [nm_k]
    by_cases h1 : gi S 49 16 = gi S 16 8
    · rw [if_pos h1]
      by_cases h2 : gi S 49 17 = nI n
      · rw [if_pos h2]
        by_cases h3 : gi S 49 18 = u
        · exact absurd ⟨h1, h2, h3⟩ hno
        · rw [if_neg h3]; simp only []; rw [a1, bV_eq, nm_k]; rw [nm_k, b1, c1, bV_eq, nm_k, nm_k, nm_k]
      · rw [if_neg h2]; simp only []; rw [a1, bV_eq, nm_k]; rw [nm_k, b1, c1, bV_eq, nm_k, nm_k, nm_k]
    · rw [if_neg h1]; simp only []; rw [a1, bV_eq, nm_k]; rw [nm_k, b1, c1, bV_eq, nm_k, nm_k, nm_k]
  · obtain ⟨t1, t2, q, t3, t4⟩ := c5
    refine ⟨by rw [fl.2.1 49 14 (by omega)]; exact t1, t2, q, by rw [fl.2.2.2]; exact t3, t4.1, ?_⟩
    rcases t4.2 with ⟨x, y⟩ | ⟨r, x, y, z⟩
    · have t41 := t4.1
      exact Or.inl ⟨x, by rw [fl.2.1 q 4 (by omega)]; exact y⟩
    · exact Or.inr ⟨r, x, y, z.mq t4.1 (fun c k h => fl.2.1 c k (by omega))⟩
  · rw [gi_si, if_neg (by omega), gi_si, if_neg (by omega), gi_si, if_pos ⟨rfl, rfl⟩]; exact e8
  · rw [gi_si, if_neg (by omega), gi_si, if_pos ⟨rfl, rfl⟩]
  · rw [gi_si, if_pos ⟨rfl, rfl⟩]
