/-! a rule's end, its tests, a whole rule -/
noncomputable def T231 (U : AS) : Option AS := bI (f_Md_here U) fun r10 S9 => if r10 = 59 then some (si S9 70 22 ((gi S9 70 22) + 1)) else bV (f_Md_blame 1 (gi S9 70 22) S9) fun S13 => some (si S13 70 22 ((gi S13 70 22) + 1))
noncomputable def T171 (v1 a4 a5 : Int32) (S6 : AS) : Option AS := if (gi S6 70 24) ≤ 0 then (bV (f_Md_add a4 a5 0 S6) fun S7 => if a4 = 4 then (bI (f_Md_tests 1 S7) fun r20 S19 => chk (vp_in (v1 + 2) 600) (T231 (si S19 84 (ix (v1 + 2)) r20))) else (bI (f_Md_passes 26982 2 S7) fun r15 S14 => if r15 = 0 then T231 S14 else (bI (f_Md_tests 0 S14) fun r17 S16 => chk (vp_in (v1 + 2) 600) (T231 (si S16 84 (ix (v1 + 2)) r17))))) else some S6
noncomputable def T55 (v1 : Int32) (S37 : AS) : Option AS := if (gi S37 70 24) = 0 then chk (vp_in (gi S37 70 22) 400) (T171 v1 0 ((gi S37 71 (ix (gi S37 70 22))) - 97) (si S37 70 22 ((gi S37 70 22) + 1))) else T171 v1 0 0 (si S37 70 22 ((gi S37 70 22) + 1))
theorem rule_unf (U : AS) : f_Md_rule U = bI (f_Md_passes 2003399784 4 U) fun r3 S2 => if r3 = 0 then (bI (f_Md_passes 1752132965 4 S2) fun r23 S22 => if r23 = 0 then (bI (f_Md_passes 1751738216 4 S22) fun r25 S24 => if r25 = 0 then (bI (f_Md_passes 7106423 3 S24) fun r27 S26 => if r27 = 0 then (bI (f_Md_passes 6447474 3 S26) fun r29 S28 => if r29 = 0 then (bV (f_Md_blame 1 (gi S28 70 22) S28) fun S30 => T171 (gi U 70 21) 0 0 S30) else (T171 (gi U 70 21) 4 0 S28)) else (bI (f_Md_subject S26) fun r32 S31 => T171 (gi U 70 21) 3 r32 S31)) else (bI (f_Md_subject S24) fun r34 S33 => T171 (gi U 70 21) 2 r34 S33)) else (T171 (gi U 70 21) 1 0 S22)) else (bI (f_Md_wordSize S2) fun r36 S35 => if r36 = 1 then (chk (vp_in (gi S35 70 22) 400) (if (gi S35 71 (ix (gi S35 70 22))) ≤ 104 then (T55 (gi U 70 21) S35) else (bV (f_Md_blame 1 (gi S35 70 22) S35) fun S43 => T55 (gi U 70 21) S43))) else (bV (f_Md_blame 1 (gi S35 70 22) S35) fun S43 => T55 (gi U 70 21) S43)) := by
  unfold f_Md_rule
  rfl
theorem tl_fault {b : Nat → Nat} {t a : Nat} {f : Int32} {x : Nat} (hf : f = 1 ∨ f = 2) {U : AS} (hU : MR U b t a) (ha : a ≤ 410) (hF : FM U f x) : ∃ U', T231 U = some U' ∧ fr pMr U U' ∧ FM U' f x ∧ ∃ a', MR U' b t a' ∧ a' ≤ 411 := by
  have h400 := hU.2.1
  have hs : scn isBl b t a ≤ 410 := by
    rcases Nat.lt_or_ge a t with h | h
    · have := (scn_spec isBl b t a).2.1 (by omega); omega
    · rw [scn_end (by omega)]; exact ha
  have hn1 : ¬ f ≤ 0 := by rcases hf with e | e <;> rw [e] <;> decide
  have g22 : gi (si U 70 22 (nI (scn isBl b t a))) 70 22 = nI (scn isBl b t a) := by rw [gi_si, if_pos ⟨rfl, rfl⟩]
  have g24 : gi (si U 70 22 (nI (scn isBl b t a))) 70 24 = f := by rw [gi_si, if_neg (by omega)]; exact hF.1
  refine ⟨si U 70 22 (nI (scn isBl b t a + 1)), ?_, (fr_rf _ U).si (by unfold pMr; omega), ⟨by rw [gi_si, if_neg (by omega)]; exact hF.1, by rw [gi_si, if_neg (by omega)]; exact hF.2⟩, _, hU.at (by omega), by omega⟩
  unfold T231
  rw [here_spec hU, bI_eq, blame_spec, g24, if_neg hn1, bV_eq, g22, nI_1, si_si]
  exact ite_self _
theorem tl {b : Nat → Nat} {t N : Nat} (hN : NT b t N) {S U : AS} {k a : Nat} (hC : CR S b t N k) (hU : MR U b t a) (hak : scn isBl b t a = tkp b t k) (h24 : gi U 70 24 = 0) :
    (∃ S' U', f_RuleReader_pass 17 S = some (0, S') ∧ T231 U = some U' ∧ fr pCr S S' ∧ FC S' 1 (tkp b t k) ∧ fr pMr U U' ∧ FM U' 1 (tkp b t k) ∧ ∃ a', MR U' b t a' ∧ a' ≤ 411) ∨
    (k < N ∧ f_RuleReader_pass 17 S = some (1, adv S b t (k + 1)) ∧ CR (adv S b t (k + 1)) b t N (k + 1) ∧ T231 U = some (si U 70 22 (nI (tkp b t k + 1))) ∧ tkp b t k + 1 ≤ t ∧ scn isBl b t (tkp b t k + 1) = tkp b t (k + 1)) := by
  have hpt := tkp_le b t k
  have h400 := hN.1
  have hh := here_spec hU
  rw [hak] at hh
  have g22 : gi (si U 70 22 (nI (tkp b t k))) 70 22 = nI (tkp b t k) := by rw [gi_si, if_pos ⟨rfl, rfl⟩]
  have g24 : gi (si U 70 22 (nI (tkp b t k))) 70 24 = 0 := by rw [gi_si, if_neg (by omega)]; exact h24
  have hU0 : MR (si U 70 22 (nI (tkp b t k))) b t (tkp b t k) := hU.at (by omega)
  have hps := pass_spec (w := 17) hC hN (by decide)
  by_cases h : cd b t (tkp b t k) = 17
  · right
    obtain ⟨hk, w1, w2⟩ := hps.1 h
    have h' := cd_17.mp h
    have hen : en b t (tkp b t k) = tkp b t k + 1 := by
      unfold en
      rw [if_neg (fun y => by have := (isL_iff _).mp y; omega), if_neg (fun y => by have := (isDg_iff _).mp y; omega)]
    refine ⟨hk, w1, w2, ?_, by omega, by rw [← hen]; exact (tkp_s h'.1).symm⟩
    unfold T231
    rw [hh, bI_eq, if_pos h'.1, if_pos (show nI (b (tkp b t k)) = 59 by rw [h'.2]; rfl), g22, nI_1, si_si]
  · left
    obtain ⟨S', w1, w2, w3⟩ := hps.2 h
    have hV0 : MR (si (si (si U 70 22 (nI (tkp b t k))) 70 24 1) 70 25 (nI (tkp b t k))) b t (tkp b t k) := hU0.mv (fun c i hc => by rw [gi_si, if_neg (by omega), gi_si, if_neg (by omega)])
    refine ⟨S', si (si (si (si U 70 22 (nI (tkp b t k))) 70 24 1) 70 25 (nI (tkp b t k))) 70 22 (nI (tkp b t k + 1)), w1, ?_, w2, w3, ((((fr_rf _ U).si (by unfold pMr; omega)).si (by unfold pMr; omega)).si (by unfold pMr; omega)).si (by unfold pMr; omega), ⟨by rw [gi_si, if_neg (by omega), gi_si, if_neg (by omega), gi_si, if_pos ⟨rfl, rfl⟩], by rw [gi_si, if_neg (by omega), gi_si, if_pos ⟨rfl, rfl⟩]⟩, _, hV0.at (by omega), by omega⟩
    unfold T231
    rw [hh, bI_eq, if_neg (fun y => h (cd_17.mpr (by
      by_cases z : tkp b t k < t
      · rw [if_pos z] at y
        have hb := (hU.2.2.1 (tkp b t k)).2
        exact ⟨z, nI_inj (b := 59) (by omega) (by decide) y⟩
      · rw [if_neg z] at y
        exact absurd y (by decide)))), g22, blame_spec, g24, if_pos (by decide), bV_eq, hV0.2.2.2.1, nI_1]
def BAD2 (S U S' U' : AS) (b : Nat → Nat) (t : Nat) : Prop := ∃ f x, fr pCr S S' ∧ FC S' f x ∧ fr pMr U U' ∧ FM U' f x ∧ (f = 1 ∨ f = 2) ∧ ∃ a', MR U' b t a'
noncomputable def KC (q : Nat) (S : AS) : Option (Int32 × AS) := if q = 4 then (bI (f_RuleReader_readTests 6 S) fun r13 S12 => if r13 = 0 then some (0, S12) else (bI (f_RuleReader_pass 17 S12) fun r16 S15 => if r16 = 0 then some (0, S15) else some (1, S15))) else (bI (f_RuleReader_readCondition S) fun r7 S6 => if r7 = 0 then some (0, S6) else (bI (f_RuleReader_pass 17 S6) fun r9 S8 => if r9 = 0 then some (0, S8) else some (1, S8)))
theorem rl_tail {b : Nat → Nat} {t N : Nat} (hN : NT b t N) {S U : AS} {k a n c m q : Nat} {a5 : Int32} (hn : n < 16) (hm : m ≤ 3 * (n + c)) (hq4 : q ≤ 4) (hC : CR S b t N k) (hU : MR U b t a) (hat : a ≤ t) (hak : scn isBl b t a = tkp b t k) (h24 : gi U 70 24 = 0) (h4 : gi S 4 4 = nI (n + 1)) (h8 : gi S 4 8 = nI c) (h21 : gi U 70 21 = nI m) (h5 : gi S 5 n = nI (q + 7)) (h6 : ¬ q = 1 → ¬ q = 4 → gi S 6 n = a5) (h7' : gi S 7 n = nI c) (h8' : gi S 8 n = nI c) (ha0 : q = 0 → bnd a5 7) (ha2 : q = 2 ∨ q = 3 → bnd a5 6) (h7 : 7 * c ≤ tkp b t k) :
    (∃ S' U', KC q S = some (0, S') ∧ T171 (nI m) (nI q) a5 U = some U' ∧ BAD2 S U S' U' b t) ∨
    (∃ S' U' a' l k', KC q S = some (1, S') ∧ T171 (nI m) (nI q) a5 U = some U' ∧ CR S' b t N k' ∧ k < k' ∧ fr pCo S S' ∧ fr pMo U U' ∧ MR U' b t a' ∧ a' ≤ t ∧ scn isBl b t a' = tkp b t k' ∧ gi U' 70 24 = 0 ∧ gi S' 4 4 = nI (n + 1) ∧ gi S' 4 8 = nI (c + l) ∧ gi U' 70 21 = nI (m + 3 + 3 * l) ∧ gi U' 84 (m + 2) = nI l ∧ RUL S' U' n m q l c ∧ FRM S U S' U' n c m ∧ 7 * (c + l) ≤ tkp b t k') := by
  have hpt := tkp_le b t k
  have h400 := hN.1
  have hadd := madd_spec (U := U) (m := m) (by omega) h21 (nI q) a5 0
  have w84 : ∀ x, gi (si (si (si (si U 84 m (nI q)) 84 (m + 1) a5) 84 (m + 2) 0) 70 21 (nI (m + 3))) 84 x = if x = m + 2 then 0 else if x = m + 1 then a5 else if x = m then nI q else gi U 84 x := fun x => by
    rw [gi_si, if_neg (by omega), gi_si]
    by_cases y2 : x = m + 2
    · rw [if_pos ⟨rfl, y2⟩, if_pos y2]
    · rw [if_neg (fun z => y2 z.2), if_neg y2, gi_si]
      by_cases y1 : x = m + 1
      · rw [if_pos ⟨rfl, y1⟩, if_pos y1]
      · rw [if_neg (fun z => y1 z.2), if_neg y1, gi_si]
        by_cases y0 : x = m
        · rw [if_pos ⟨rfl, y0⟩, if_pos y0]
        · rw [if_neg (fun z => y0 z.2), if_neg y0]
  have fU1 : fr pMo U (si (si (si (si U 84 m (nI q)) 84 (m + 1) a5) 84 (m + 2) 0) 70 21 (nI (m + 3))) := ((((fr_rf _ U).si (by unfold pMo; omega)).si (by unfold pMo; omega)).si (by unfold pMo; omega)).si (by unfold pMo; omega)
  have hU1 : MR (si (si (si (si U 84 m (nI q)) 84 (m + 1) a5) 84 (m + 2) 0) 70 21 (nI (m + 3))) b t a := hU.mv (fun d i hc => by rw [gi_si, if_neg (by omega), gi_si, if_neg (by omega), gi_si, if_neg (by omega), gi_si, if_neg (by omega)])
  have g24 : gi (si (si (si (si U 84 m (nI q)) 84 (m + 1) a5) 84 (m + 2) 0) 70 21 (nI (m + 3))) 70 24 = 0 := by rw [gi_si, if_neg (by omega), gi_si, if_neg (by omega), gi_si, if_neg (by omega), gi_si, if_neg (by omega)]; exact h24
  have g21 : gi (si (si (si (si U 84 m (nI q)) 84 (m + 1) a5) 84 (m + 2) 0) 70 21 (nI (m + 3))) 70 21 = nI (m + 3) := by rw [gi_si, if_pos ⟨rfl, rfl⟩]
  generalize si (si (si (si U 84 m (nI q)) 84 (m + 1) a5) 84 (m + 2) 0) 70 21 (nI (m + 3)) = U1 at hadd w84 fU1 hU1 g24 g21
  have z2 : gi U1 84 (m + 2) = 0 := by rw [w84, if_pos rfl]
  have z1 : gi U1 84 (m + 1) = a5 := by rw [w84, if_neg (by omega), if_pos rfl]
  have z0 : gi U1 84 m = nI q := by rw [w84, if_neg (by omega), if_neg (by omega), if_pos rfl]
  have hR0 : RUL S U1 n m q 0 c := ⟨z0, hq4, by rw [z1]; exact ha0, by rw [z1]; exact ha2, h5, by rw [z1]; exact h6, h7', h8', fun j hj => by omega⟩
  have hFR : FRM S U S U1 n c m := ⟨fun _ _ _ _ _ => rfl, fun _ _ _ _ _ => rfl, fun x hx => by rw [w84, if_neg (by omega), if_neg (by omega), if_neg (by omega)]⟩
  have hin2 : vp_in (nI m + 2) 600 := by rw [show nI m + 2 = nI (m + 2) from nI_add m 2]; exact in_nI (by omega) (by decide)
  have eix : ix (nI m + 2) = m + 2 := by rw [show nI m + 2 = nI (m + 2) from nI_add m 2]; exact ix_nI (by omega)
  have h171 : T171 (nI m) (nI q) a5 U = if nI q = 4 then (bI (f_Md_tests 1 U1) fun r20 S19 => chk (vp_in (nI m + 2) 600) (T231 (si S19 84 (ix (nI m + 2)) r20))) else (bI (f_Md_passes 26982 2 U1) fun r15 S14 => if r15 = 0 then T231 S14 else (bI (f_Md_tests 0 S14) fun r17 S16 => chk (vp_in (nI m + 2) 600) (T231 (si S16 84 (ix (nI m + 2)) r17)))) := by
    unfold T171
    rw [h24, if_pos (by decide), hadd, bV_eq]
  -- tests that went wrong: the reference runs out
  have post : ∀ (V : AS) (l : Nat) (f : Int32) (x : Nat), (f = 1 ∨ f = 2) → fr pMr U V → FM V f x → (∃ a', MR V b t a' ∧ a' ≤ 406) → ∃ U', chk (vp_in (nI m + 2) 600) (T231 (si V 84 (ix (nI m + 2)) (nI l))) = some U' ∧ fr pMr U U' ∧ FM U' f x ∧ ∃ a', MR U' b t a' := fun V l f x hf v1 v2 v3 => by
    obtain ⟨a', v4, v5⟩ := v3
    obtain ⟨U', u1, u2, u3, a2, u4, -⟩ := tl_fault hf (U := si V 84 (m + 2) (nI l)) (v4.mv (fun d i hc => by rw [gi_si, if_neg (by omega)])) (by omega) (show FM (si V 84 (m + 2) (nI l)) f x from ⟨by rw [gi_si, if_neg (by omega)]; exact v2.1, by rw [gi_si, if_neg (by omega)]; exact v2.2⟩)
    exact ⟨U', by rw [chk_pos hin2, eix, u1], (v1.si (by unfold pMr; omega)).tr u2, u3, a2, u4⟩
  -- tests that went well: the end of the rule
  have good : ∀ (S2 V : AS) (a2 l k2 : Nat), CR S2 b t N k2 → k ≤ k2 → fr pCo S S2 → fr pMo U V → MR V b t a2 → scn isBl b t a2 = tkp b t k2 → gi V 70 24 = 0 → gi S2 4 4 = nI (n + 1) → gi S2 4 8 = nI (c + l) → gi V 70 21 = nI (m + 3 + 3 * l) → gi V 84 (m + 2) = nI l → RUL S2 V n m q l c → FRM S U S2 V n c m → 7 * (c + l) ≤ tkp b t k2 + 1 →
      (∃ S' U', f_RuleReader_pass 17 S2 = some (0, S') ∧ T231 V = some U' ∧ BAD2 S U S' U' b t) ∨
      (∃ S' U' a' k', f_RuleReader_pass 17 S2 = some (1, S') ∧ T231 V = some U' ∧ CR S' b t N k' ∧ k < k' ∧ fr pCo S S' ∧ fr pMo U U' ∧ MR U' b t a' ∧ a' ≤ t ∧ scn isBl b t a' = tkp b t k' ∧ gi U' 70 24 = 0 ∧ gi S' 4 4 = nI (n + 1) ∧ gi S' 4 8 = nI (c + l) ∧ gi U' 70 21 = nI (m + 3 + 3 * l) ∧ gi U' 84 (m + 2) = nI l ∧ RUL S' U' n m q l c ∧ FRM S U S' U' n c m ∧ 7 * (c + l) ≤ tkp b t k') := by
    intro S2 V a2 l k2 g1 g2 g3 g4 g5 g6 g7 g8 g9 g10 g11 g12 g13 g14
    rcases tl hN g1 g5 g6 g7 with ⟨S', U', t1, t2, t3, t4, t5, t6, a', t7, -⟩ | ⟨hk, t1, t2, t3, t4, t5⟩
    · exact Or.inl ⟨S', U', t1, t2, 1, tkp b t k2, (pCo_r g3).tr t3, t4, (pMo_r g4).tr t5, t6, Or.inl rfl, a', t7⟩
    · right
      have m1 : ∀ d i, ¬ (d = 70 ∧ i = 22) → gi (si V 70 22 (nI (tkp b t k2 + 1))) d i = gi V d i := fun d i h => by rw [gi_si, if_neg h]
      have s1 : ∀ d i, ¬ (d = 3 ∧ (i = 2 ∨ i = 3)) → gi (adv S2 b t (k2 + 1)) d i = gi S2 d i := fun d i h => adv_gi _ _ _ _ _ _ h
      have hlt := tkp_lt (hN.2.2.2 k2 hk)
      exact ⟨adv S2 b t (k2 + 1), si V 70 22 (nI (tkp b t k2 + 1)), tkp b t k2 + 1, k2 + 1, t1, t3, t2, by omega, adv_fr b t _ g3 (by unfold pCo; omega) (by unfold pCo; omega), g4.si (by unfold pMo; omega), g5.at (by omega), t4, t5, by rw [m1 70 24 (by omega)]; exact g7, by rw [s1 4 4 (by omega)]; exact g8, by rw [s1 4 8 (by omega)]; exact g9, by rw [m1 70 21 (by omega)]; exact g10, by rw [m1 84 _ (by omega)]; exact g11, g12.mv (fun d d1 d2 => s1 d n (by omega)) (fun d i d1 d2 _ => s1 d i (by omega)) (fun y _ _ => m1 84 y (by omega)), ⟨fun d i d1 d2 d3 => by rw [s1 d i (by omega)]; exact g13.1 d i d1 d2 d3, fun d i d1 d2 d3 => by rw [s1 d i (by omega)]; exact g13.2.1 d i d1 d2 d3, fun y hy => by rw [m1 84 y (by omega)]; exact g13.2.2 y hy⟩, by omega⟩
  -- the tests' count is written down
  have fill : ∀ (S2 V : AS) (l : Nat), RUL S2 V n m q l c → FRM S U S2 V n c m → RUL S2 (si V 84 (m + 2) (nI l)) n m q l c ∧ FRM S U S2 (si V 84 (m + 2) (nI l)) n c m := fun S2 V l r f => ⟨r.mv (fun _ _ _ => rfl) (fun _ _ _ _ _ => rfl) (fun y _ hy => by rw [gi_si, if_neg (fun z => hy z.2)]), f.1, f.2.1, fun y hy => by rw [gi_si, if_neg (by omega)]; exact f.2.2 y hy⟩
  unfold KC
  rw [h171]
  by_cases hq : q = 4
  · rw [if_pos hq, if_pos (show nI q = 4 by rw [hq]; rfl)]
    rcases ts_all hN (x1 := 1) (last := 6) (Or.inl ⟨rfl, rfl⟩) hn (fun z => absurd hq z) hm hC hU1 hat hak g24 h4 h8 g21 hR0 h7 with ⟨S2, V, e, x, l, d1, d2, y1, y2, y3, y4, y5, y6⟩ | ⟨S2, V, W, l, k2, d1, d2, d3, d4, d5, y1, y2, y3, y4, y5, y6⟩ | ⟨S2, V, a2, l, k2, d1, d2, d3, d4, d5, d6, d7, d8, d9, d10, d11, d12, d13, d14, d15, d16⟩
    · left
      obtain ⟨U', u1, u2, u3, u4⟩ := post V l e x y5 ((pMo_r fU1).tr y3) y4 y6
      refine ⟨S2, U', by rw [show (6 : Int32) = nI 6 from rfl, d1, bI_eq, if_pos rfl], by rw [d2, bI_eq]; exact u1, e, x, y1, y2, u2, u3, y5, u4⟩
    · left
      obtain ⟨U', u1, u2, u3, u4⟩ := post V l 1 (tkp b t k2) (Or.inl rfl) ((pMo_r fU1).tr y3) y4 y6
      obtain ⟨S3, s1, s2, s3⟩ := (pass_spec (w := 17) d2 hN (by decide)).2 (by rw [d4]; decide)
      refine ⟨S3, U', ?_, by rw [d5, bI_eq]; exact u1, 1, tkp b t k2, d3.tr s2, s3, u2, u3, Or.inl rfl, u4⟩
      rw [show (6 : Int32) = nI 6 from rfl, d1, bI_eq, if_neg ne10, show (17 : Int32) = nI 17 from rfl, s1, bI_eq, if_pos rfl]
    · obtain ⟨f1, f2⟩ := fill S2 V l d13 (hFR.tr d14 (Nat.le_refl _) (by omega))
      have v1 : ∀ d i, ¬ d = 84 → gi (si V 84 (m + 2) (nI l)) d i = gi V d i := fun d i h => by rw [gi_si, if_neg (by omega)]
      rcases good S2 (si V 84 (m + 2) (nI l)) a2 l k2 d2 (by omega) d3 ((fU1.tr d5).si (by unfold pMo; omega)) (d6.mv (fun d i hc => v1 d i (by omega))) d8 (by rw [v1 70 24 (by omega)]; exact d9) d10 d11 (by rw [v1 70 21 (by omega)]; exact d12) (by rw [gi_si, if_pos ⟨rfl, rfl⟩]) f1 f2 d15 with ⟨S', U', p1, p2, p3⟩ | ⟨S', U', a', k', p1, p2, p3⟩
      · exact Or.inl ⟨S', U', by rw [show (6 : Int32) = nI 6 from rfl, d1, bI_eq, if_neg ne10, p1, bI_eq, if_pos rfl], by rw [d4, bI_eq, chk_pos hin2, eix]; exact p2, p3⟩
      · exact Or.inr ⟨S', U', a', l, k', by rw [show (6 : Int32) = nI 6 from rfl, d1, bI_eq, if_neg ne10, p1, bI_eq, if_neg ne10], by rw [d4, bI_eq, chk_pos hin2, eix]; exact p2, p3⟩
  · rw [if_neg hq, if_neg (show ¬ nI q = 4 from fun z => hq (nI_inj (b := 4) (by omega) (by decide) z))]
    have hps := ps_spec hU1 (w := 12) (by decide) px_12 (L := 2) rfl
    rw [hak] at hps
    have c19 := cd_le (b := b) (t := t) (p := tkp b t k)
    unfold f_RuleReader_readCondition
    rw [hC.2.2.2]
    by_cases h12 : cd b t (tkp b t k) = 12
    · rw [if_pos h12, if_pos h12] at hps
      have hk := cd_end hN hC.2.1 (by omega)
      have hp := hN.2.2.2 k hk
      have hen2 := en_gt (b := b) hp
      have e1 : scn isBl b t (en b t (tkp b t k)) = tkp b t (k + 1) := (tkp_s hp).symm
      have hlt := tkp_lt hp
      obtain ⟨b1, b2⟩ := adv_spec hC hk
      have s1 : ∀ d i, ¬ (d = 3 ∧ (i = 2 ∨ i = 3)) → gi (adv S b t (k + 1)) d i = gi S d i := fun d i h => adv_gi _ _ _ _ _ _ h
      have u1 : ∀ d i, ¬ (d = 70 ∧ i = 22) → gi (si U1 70 22 (nI (en b t (tkp b t k)))) d i = gi U1 d i := fun d i h => by rw [gi_si, if_neg h]
      have fS1 : fr pCo S (adv S b t (k + 1)) := adv_fr b t _ (fr_rf _ S) (by unfold pCo; omega) (by unfold pCo; omega)
      have fU2 : fr pMo U (si U1 70 22 (nI (en b t (tkp b t k)))) := fU1.si (by unfold pMo; omega)
      have hFR2 : FRM S U (adv S b t (k + 1)) (si U1 70 22 (nI (en b t (tkp b t k)))) n c m := ⟨fun d i d1 d2 d3 => s1 d i (by omega), fun d i d1 d2 d3 => s1 d i (by omega), fun y hy => by rw [u1 84 y (by omega)]; exact hFR.2.2 y hy⟩
      rw [if_pos (show nI (cd b t (tkp b t k)) = 12 by rw [h12]; rfl), b1, bV_eq, hps, bI_eq, if_neg ne10]
      rcases ts_all hN (x1 := 0) (last := 1) (q := q) (Or.inr ⟨rfl, rfl⟩) hn (fun _ => rfl) hm b2 (hU1.at (show en b t (tkp b t k) ≤ 1000 by omega)) hen2.2 e1 (by rw [u1 70 24 (by omega)]; exact g24) (by rw [s1 4 4 (by omega)]; exact h4) (by rw [s1 4 8 (by omega)]; exact h8) (by rw [u1 70 21 (by omega)]; exact g21) (hR0.mv (fun d d1 d2 => s1 d n (by omega)) (fun d i d1 d2 _ => s1 d i (by omega)) (fun y _ _ => u1 84 y (by omega))) (by omega) with ⟨S2, V, e, x, l, d1, d2, y1, y2, y3, y4, y5, y6⟩ | ⟨S2, V, W, l, k2, d1, d2, d3, d4, d5, y1, y2, y3, y4, y5, y6⟩ | ⟨S2, V, a2, l, k2, d1, d2, d3, d4, d5, d6, d7, d8, d9, d10, d11, d12, d13, d14, d15, d16⟩
      · left
        obtain ⟨U', w1, w2, w3, w4⟩ := post V l e x y5 ((pMo_r fU2).tr y3) y4 y6
        refine ⟨S2, U', by rw [show (1 : Int32) = nI 1 from rfl, d1, bI_eq, chk_pos isb_0, bI_eq, if_pos rfl], by rw [d2, bI_eq]; exact w1, e, x, (pCo_r fS1).tr y1, y2, w2, w3, y5, w4⟩
      · left
        obtain ⟨U', w1, w2, w3, w4⟩ := post V l 1 (tkp b t k2) (Or.inl rfl) ((pMo_r fU2).tr y3) y4 y6
        obtain ⟨S3, p1, p2, p3⟩ := (pass_spec (w := 17) d2 hN (by decide)).2 (by rw [d4]; decide)
        refine ⟨S3, U', ?_, by rw [d5, bI_eq]; exact w1, 1, tkp b t k2, (pCo_r fS1).tr (d3.tr p2), p3, w2, w3, Or.inl rfl, w4⟩
        rw [show f_RuleReader_readTests 1 (adv S b t (k + 1)) = some (1, S2) from d1, bI_eq, chk_pos isb_1, bI_eq, if_neg ne10, show (17 : Int32) = nI 17 from rfl, p1, bI_eq, if_pos rfl]
      · obtain ⟨f1, f2⟩ := fill S2 V l d13 (hFR2.tr d14 (Nat.le_refl _) (by omega))
        have v1 : ∀ d i, ¬ d = 84 → gi (si V 84 (m + 2) (nI l)) d i = gi V d i := fun d i h => by rw [gi_si, if_neg (by omega)]
        rcases good S2 (si V 84 (m + 2) (nI l)) a2 l k2 d2 (by omega) (fS1.tr d3) ((fU2.tr d5).si (by unfold pMo; omega)) (d6.mv (fun d i hc => v1 d i (by omega))) d8 (by rw [v1 70 24 (by omega)]; exact d9) d10 d11 (by rw [v1 70 21 (by omega)]; exact d12) (by rw [gi_si, if_pos ⟨rfl, rfl⟩]) f1 f2 d15 with ⟨S', U', p1, p2, p3⟩ | ⟨S', U', a', k', p1, p2, p3⟩
        · exact Or.inl ⟨S', U', by rw [show f_RuleReader_readTests 1 (adv S b t (k + 1)) = some (1, S2) from d1, bI_eq, chk_pos isb_1, bI_eq, if_neg ne10, p1, bI_eq, if_pos rfl], by rw [d4, bI_eq, chk_pos hin2, eix]; exact p2, p3⟩
        · exact Or.inr ⟨S', U', a', l, k', by rw [show f_RuleReader_readTests 1 (adv S b t (k + 1)) = some (1, S2) from d1, bI_eq, chk_pos isb_1, bI_eq, if_neg ne10, p1, bI_eq, if_neg ne10], by rw [d4, bI_eq, chk_pos hin2, eix]; exact p2, p3⟩
    · rw [if_neg h12, if_neg h12] at hps
      have u1 : ∀ d i, ¬ (d = 70 ∧ i = 22) → gi (si U1 70 22 (nI (tkp b t k))) d i = gi U1 d i := fun d i h => by rw [gi_si, if_neg h]
      rw [if_neg (show ¬ nI (cd b t (tkp b t k)) = 12 from fun z => h12 (nI_inj (b := 12) (by omega) (by decide) z)), bI_eq, if_neg ne10, hps, bI_eq, if_pos rfl]
      rcases good S (si U1 70 22 (nI (tkp b t k))) (tkp b t k) 0 k hC (Nat.le_refl _) (fr_rf _ _) (fU1.si (by unfold pMo; omega)) (hU1.at (by omega)) (tkp_idem b t k) (by rw [u1 70 24 (by omega)]; exact g24) h4 h8 (by rw [u1 70 21 (by omega)]; exact g21) (by rw [u1 84 _ (by omega), z2]; rfl) (hR0.mv (fun _ _ _ => rfl) (fun _ _ _ _ _ => rfl) (fun y _ _ => u1 84 y (by omega))) ⟨fun _ _ _ _ _ => rfl, fun _ _ _ _ _ => rfl, fun y hy => by rw [u1 84 y (by omega)]; exact hFR.2.2 y hy⟩ (by omega) with ⟨S', U', p1, p2, p3⟩ | ⟨S', U', a', k', p1, p2, p3⟩
      · exact Or.inl ⟨S', U', by rw [p1, bI_eq, if_pos rfl], p2, p3⟩
      · exact Or.inr ⟨S', U', a', 0, k', by rw [p1, bI_eq, if_neg ne10], p2, p3⟩
