/-! rings: the reference -/
def MRN (U : AS) (R : RD) (Q P : Nat) : Prop := Q ≤ 16 ∧ P ≤ 24 ∧ gi U 70 2 = nI P ∧ gi U 70 4 = nI Q ∧ (∀ q, q < Q → gi U 85 q = R.1 q) ∧ (∀ q, q < Q → R.1 q = -1 ∨ ∃ w, w < P ∧ R.1 q = nI w) ∧ ∀ w, w < 24 → R.2.1 w ≤ 3 ∧ gi U 95 w = nI (R.2.1 w) ∧ ∀ i, i < R.2.1 w → R.2.2.1 w i < Q ∧ gi U 94 (3 * w + i) = nI (R.2.2.1 w i)
theorem MRN.mv {S T : AS} {R : RD} {Q P : Nat} (h : MRN S R Q P) (e : ∀ c k, (c = 70 ∧ k ≤ 15) ∨ c = 85 ∨ c = 94 ∨ c = 95 → gi T c k = gi S c k) : MRN T R Q P := by
  obtain ⟨a, b, c, d, f, g, h⟩ := h
  refine ⟨a, b, by rw [e 70 2 (by omega)]; exact c, by rw [e 70 4 (by omega)]; exact d, fun q hq => by rw [e 85 q (by omega)]; exact f q hq, g, fun w hw => ?_⟩
  obtain ⟨x, y, z⟩ := h w hw
  exact ⟨x, by rw [e 95 w (by omega)]; exact y, fun i hi => ⟨(z i hi).1, by rw [e 94 _ (by omega)]; exact (z i hi).2⟩⟩
def THR (U : AS) (A : Nat → Prop) (P : Nat) : Prop := ∀ w, w < P → gi U 97 w = pif (A w) 1 0
theorem md_points {U : AS} {R : RD} {A0 A : Nat → Prop} {Q P : Nat} (hU : MRN U R Q P) (hR : RG R A0 Q) (hA : ∀ w, A w → A0 w) (hT : THR U A P) (hO : ∀ w, A0 w → gi U 98 w = nI (R.2.2.2 w)) {w : Nat} (hw : A w) : f_Md_points (nI w) U = some (nI (pt R A w), U) := by
  obtain ⟨hQ, hP, u1, u2, u3, u4, u5⟩ := hU
  have w24 := (hR.1 w (hA w hw)).1
  obtain ⟨m1, m2, m3⟩ := u5 w w24
  have key : ∀ (f c i : Nat), i + c = R.2.1 w → c < f → ∀ (J : AS → Option (Int32 × AS)) (K : Int32 → AS → Option (Int32 × AS)), f_Md_points_L2 J K (nI w) f (nI i) U = if fw R A w c i < R.2.1 w then K (nI (fw R A w c i)) U else J U := by
    intro f
    induction f with
    | zero => intro c i _ h; omega
    | succ f ih =>
      intro c i hi hf J K
      have hin : vp_in (nI w) 24 := in_nI w24 (by decide)
      rw [f_Md_points_L2, chk_pos hin, ix_nI (by omega), m2]
      cases c with
      | zero => rw [fw, if_pos (nI_le (by omega) (by omega)), if_neg (by omega)]
      | succ c =>
        obtain ⟨p1, p2⟩ := m3 i (by omega)
        have e3 : 3 * nI w + nI i = nI (3 * w + i) := n3 w i
        rw [if_neg (nI_ge (by omega) (by omega)), e3, chk_pos (in_nI (by omega) (by decide)), ix_nI (by omega), p2, chk_pos (in_nI (by omega) (by decide)), ix_nI (by omega), u3 _ p1]
        simp only [nm_k]
        rw [nI_1, fw]
        have next := ih c (i + 1) (by omega) (by omega) J K
        rcases u4 _ p1 with z | ⟨v, v1, v2⟩
        · rw [if_pos z, pif_neg (fun y => by
            obtain ⟨v, y1, y2, y3⟩ := y
            rw [z] at y2
            exact nI_ne_m1 (a := v) (by omega) y2.symm)]
          exact next
        · rw [v2, if_neg (nI_ne_m1 (by omega)), chk_pos (in_nI (by omega) (by decide)), ix_nI (by omega), hT v v1]
          by_cases y : A v
          · have ex : ∃ v', v' < 24 ∧ nI v = nI v' ∧ A v' := ⟨v, by omega, rfl, y⟩
            rw [pif_pos y, if_neg ne10, pif_pos ex, if_pos (by omega)]
          · rw [pif_neg y, if_pos rfl, pif_neg (fun z => by
              obtain ⟨v', z1, z2, z3⟩ := z
              have : v = v' := nI_inj (by omega) (by omega) z2
              rw [← this] at z3
              exact y z3)]
            exact next
  unfold f_Md_points
  simp only [nm_k]
  have k0 := key FU (R.2.1 w) 0 (by omega) (by rw [FU_succ]; omega) (fun S1 => chk (vp_in (nI w) 24) (some (gi S1 98 (ix (nI w)), S1))) (fun a2 S3 => chk (vp_in (3 * nI w + a2) 72) (some (gi S3 94 (ix (3 * nI w + a2)), S3)))
  rw [nI_0] at k0
  rw [k0]
  unfold pt
  by_cases z : fw R A w (R.2.1 w) 0 < R.2.1 w
  · have e3 : 3 * nI w + nI (fw R A w (R.2.1 w) 0) = nI (3 * w + fw R A w (R.2.1 w) 0) := n3 w _
    rw [if_pos z, if_pos z, e3, chk_pos (in_nI (by omega) (by decide)), ix_nI (by omega), (m3 _ z).2]
  · rw [if_neg z, if_neg z, chk_pos (in_nI w24 (by decide)), ix_nI (by omega), hO w (hA w hw)]
def lsd (X : AS) (x o : Int32) : Nat → Int32
  | 0 => o
  | q + 1 => if gi X 85 q = x then nI q else lsd X x o q
theorem lsd_lst {X : AS} {x o : Int32} {n : Nat} (h : ¬ mcnt X x n = 0) : lsd X x o n = lst X x n := by
  induction n with
  | zero => exact absurd rfl h
  | succ n ih =>
    rw [mcnt] at h
    rw [lsd, lst]
    by_cases z : gi X 85 n = x
    · rw [if_pos z, if_pos z]
    · rw [if_neg z] at h
      rw [if_neg z, if_neg z, ih h]
theorem mo_in {X : AS} {Q w : Nat} (hQ : Q ≤ 16) (hw : w < 24) {z o : Int32} : ∀ (f i : Nat) (T : AS), i ≤ Q → Q - i < f → gi T 70 4 = nI Q → (∀ q, q < Q → gi T 85 q = gi X 85 q) → gi T 98 w = lsd X (nI w) o i → ∃ T', (∀ J : AS → Option (Int32 × AS), f_Md_rings_L81 J z (nI w) f (nI i) T = J T') ∧ fr (fun c k => c = 98 ∧ k = w) T T' ∧ gi T' 98 w = lsd X (nI w) o Q := by
  intro f
  induction f with
  | zero => intro i T _ h; omega
  | succ f ih =>
    intro i T hi hf h4 h85 h98
    rcases Nat.lt_or_ge i Q with q | q
    · have hin : vp_in (nI w) 24 := in_nI hw (by decide)
      have unf : ∀ J : AS → Option (Int32 × AS), f_Md_rings_L81 J z (nI w) (f + 1) (nI i) T = f_Md_rings_L81 J z (nI w) f (nI (i + 1)) (si T 98 w (lsd X (nI w) o (i + 1))) := fun J => by
        rw [f_Md_rings_L81, h4, if_neg (nI_ge q (by omega)), chk_pos (in_nI (by omega) (by decide)), ix_nI (by omega), h85 i q]
        simp only [nm_k]
        rw [lsd, nI_1]
        by_cases y : gi X 85 i = nI w
        · rw [if_pos y, if_pos y, chk_pos hin, ix_nI (by omega)]
        · rw [if_neg y, if_neg y, chk_pos hin, chk_pos hin, ix_nI (by omega), h98]
      obtain ⟨T', a, b, c⟩ := ih (i + 1) (si T 98 w (lsd X (nI w) o (i + 1))) (by omega) (by omega) (by rw [gi_si, if_neg (by omega)]; exact h4) (fun q hq => by rw [gi_si, if_neg (by omega)]; exact h85 q hq) (by rw [gi_si, if_pos ⟨rfl, rfl⟩])
      exact ⟨T', fun J => by rw [unf]; exact a J, fr.tr (P := fun c k => c = 98 ∧ k = w) ((fr_rf _ T).si ⟨rfl, rfl⟩) b, c⟩
    · refine ⟨T, fun J => ?_, fr_rf _ _, by rw [h98, show i = Q by omega]⟩
      rw [f_Md_rings_L81, h4, if_pos (nI_le q (by omega))]
def pR3 (c k : Nat) : Prop := c = 96 ∨ c = 97 ∨ c = 98
theorem mo_out {X : AS} {D : DT} {Q P K : Nat} (hQ : Q ≤ 16) (hP : P ≤ 24) (eQ : mQ D = Q) : ∀ (f i : Nat) (T : AS), i ≤ P → P - i < f → gi T 70 2 = nI P → gi T 70 4 = nI Q → (∀ q, q < Q → gi T 85 q = gi X 85 q) → ∃ T', (∀ J : Int32 → AS → Option (Int32 × AS), f_Md_rings_L27 J f (nI (cntP (mA0 X Q) i)) (nI i) T = J (nI (cntP (mA0 X Q) P)) T') ∧ fr (fun c k => pR3 c k ∧ i ≤ k) T T' ∧ ∀ w, i ≤ w → w < P → gi T' 97 w = pif (mA0 X Q w) 1 0 ∧ gi T' 96 w = -1 ∧ (mA0 X Q w → gi T' 98 w = lst X (nI w) Q) := by
  intro f
  induction f with
  | zero => intro i T _ h; omega
  | succ f ih =>
    intro i T hi hf h2 h4 h85
    rcases Nat.lt_or_ge i P with q | q
    · have hin : vp_in (nI i) 24 := in_nI (by omega) (by decide)
      have hh := md_held (S := T) (D := D) (P := P) (K := K) (X := X) (by omega) (by rw [eQ]; exact h4) (fun p hp => h85 p (by omega)) (nI i)
      rw [eQ] at hh
      have hm := mcnt_le X (nI i) Q
      have T2f : fr (fun c k => pR3 c k ∧ i ≤ k) T (si (si T 97 i (pif (mA0 X Q i) 1 0)) 96 i (-1)) := ((fr_rf _ T).si ⟨by unfold pR3; omega, Nat.le_refl _⟩).si ⟨by unfold pR3; omega, Nat.le_refl _⟩
      have g97 : gi (si (si T 97 i (pif (mA0 X Q i) 1 0)) 96 i (-1)) 97 i = pif (mA0 X Q i) 1 0 := by rw [gi_si, if_neg (by omega), gi_si, if_pos ⟨rfl, rfl⟩]
      have g96 : gi (si (si T 97 i (pif (mA0 X Q i) 1 0)) 96 i (-1)) 96 i = -1 := by rw [gi_si, if_pos ⟨rfl, rfl⟩]
      obtain ⟨T3, a1, a2, a3⟩ := mo_in (X := X) (z := nI (cntP (mA0 X Q) (i + 1))) hQ (show i < 24 by omega) FU 0 (si (si T 97 i (pif (mA0 X Q i) 1 0)) 96 i (-1)) (by omega) (by rw [FU_succ]; omega) (by rw [T2f.2.1 70 4 (by unfold pR3; omega)]; exact h4) (fun q hq => by rw [T2f.2.1 85 q (by unfold pR3; omega)]; exact h85 q hq) (o := gi (si (si T 97 i (pif (mA0 X Q i) 1 0)) 96 i (-1)) 98 i) rfl
      have T3f : fr (fun c k => pR3 c k ∧ i ≤ k) T T3 := T2f.tr (a2.mono (fun c k h => ⟨by unfold pR3; omega, by omega⟩))
      have unf : ∀ J : Int32 → AS → Option (Int32 × AS), f_Md_rings_L27 J (f + 1) (nI (cntP (mA0 X Q) i)) (nI i) T = f_Md_rings_L27 J f (nI (cntP (mA0 X Q) (i + 1))) (nI (i + 1)) T3 := fun J => by
        rw [f_Md_rings_L27, h2, if_neg (nI_ge q (by omega)), hh, bI_eq]
        simp only [nm_k]
        rw [nI_0] at a1
        by_cases y : mcnt X (nI i) Q = 1
        · have yA : mA0 X Q i := ⟨by omega, y⟩
          have ec : cntP (mA0 X Q) (i + 1) = cntP (mA0 X Q) i + 1 := by rw [cntP, pif_pos yA]
          rw [pif_pos yA] at a1 g97
          rw [if_pos (show nI (mcnt X (nI i) Q) = 1 by rw [y]; rfl), chk_pos hin, chk_pos hin, chk_pos hin, ix_nI (by omega), show vp_nar .boolean 1 = 1 from rfl, g97, if_neg ne10, nI_1, ← ec, nI_1, a1]
        · have yA : ¬ mA0 X Q i := fun h => y h.2
          have ec : cntP (mA0 X Q) (i + 1) = cntP (mA0 X Q) i + 0 := by rw [cntP, pif_neg yA]
          rw [pif_neg yA] at a1 g97
          rw [if_neg (show ¬ nI (mcnt X (nI i) Q) = 1 from fun h => y (nI_inj (b := 1) (by omega) (by omega) h)), chk_pos hin, chk_pos hin, chk_pos hin, ix_nI (by omega), show vp_nar .boolean 0 = 0 from rfl, g97, if_pos rfl, nI_1, show nI (cntP (mA0 X Q) i) + 0 = nI (cntP (mA0 X Q) i + 0) from nI_add _ 0, ← ec, a1]
      obtain ⟨T', c1, c2, c3⟩ := ih (i + 1) T3 (by omega) (by omega) (by rw [T3f.2.1 70 2 (by unfold pR3; omega)]; exact h2) (by rw [T3f.2.1 70 4 (by unfold pR3; omega)]; exact h4) (fun q hq => by rw [T3f.2.1 85 q (by unfold pR3; omega)]; exact h85 q hq)
      refine ⟨T', fun J => by rw [unf]; exact c1 J, T3f.tr (c2.mono (fun c k h => ⟨h.1, by omega⟩)), fun w w1 w2 => ?_⟩
      by_cases e : w = i
      · subst e
        rw [c2.2.1 97 w (by omega), c2.2.1 96 w (by omega), c2.2.1 98 w (by omega), a2.2.1 97 w (by omega), a2.2.1 96 w (by omega), g97, g96, a3]
        exact ⟨rfl, rfl, fun h => lsd_lst (by rw [h.2]; omega)⟩
      · exact c3 w (by omega) w2
    · refine ⟨T, fun J => ?_, fr_rf _ _, fun w w1 w2 => by omega⟩
      rw [f_Md_rings_L27, h2, if_pos (nI_le q (by omega)), show i = P by omega]
/-! one ring -/
theorem itr_ne {f : Nat → Nat} {u d i j : Nat} (h : itr f d u = u) (hmin : ∀ e, 1 ≤ e → e < d → ¬ itr f e u = u) (hij : i < j) (hj : j < d) : ¬ itr f i u = itr f j u := fun e => by
  refine hmin (d - j + i) (by omega) (by omega) ?_
  rw [itr_add, e, ← itr_add, show d - j + j = d by omega, h]
theorem rg_got {U : AS} {R : RD} {A0 A : Nat → Prop} {Q P u d : Nat} (hU : MRN U R Q P) (hR : RG R A0 Q) (hA : ∀ w, A w → A0 w) (hP : ∀ w, A0 w → w < P) (hT : THR U A P) (hO : ∀ w, A0 w → gi U 98 w = nI (R.2.2.2 w)) (hu : A u) (hd : 1 ≤ d) (h : itr (tt R A) d u = u) (hmin : ∀ e, 1 ≤ e → e < d → ¬ itr (tt R A) e u = u) {z : Int32} {c : Nat} : ∀ (f j : Nat) (T : AS), j < d → d - j + 1 < f → fr (fun c _ => c = 96) U T → (∀ i, i < j → gi T 96 (itr (tt R A) i u) = nI (pt R A (itr (tt R A) i u))) → (∀ w, (¬ ∃ i, i < j ∧ w = itr (tt R A) i u) → gi T 96 w = gi U 96 w) → ∃ T', (∀ J : Int32 → Int32 → AS → Option (Int32 × AS), f_Md_rings_L185 J z (nI u) f (nI (c + cntP (fun w => (∃ i, i < j ∧ w = itr (tt R A) i u) ∧ ¬ pt R A w = R.2.2.2 w) 24)) (nI (itr (tt R A) j u)) 1 T = J (nI (c + cntP (fun w => (∃ i, i < d ∧ w = itr (tt R A) i u) ∧ ¬ pt R A w = R.2.2.2 w) 24)) (nI u) T') ∧ fr (fun c _ => c = 96) U T' ∧ (∀ i, i < d → gi T' 96 (itr (tt R A) i u) = nI (pt R A (itr (tt R A) i u))) ∧ (∀ w, (¬ ∃ i, i < d ∧ w = itr (tt R A) i u) → gi T' 96 w = gi U 96 w) := by
  have orb := itr_in hR hA hu
  have l24 : ∀ i, itr (tt R A) i u < 24 := fun i => (hR.1 _ (hA _ (orb i))).1
  have hQ := hU.1
  intro f
  induction f with
  | zero => intro j T _ h; omega
  | succ f ih =>
    intro j T hj hf hfr h1 h2
    have eT : ∀ c k, ¬ c = 96 → gi T c k = gi U c k := fun c k hc => hfr.2.1 c k hc
    have hUT : MRN T R Q P := hU.mv (fun c k hc => eT c k (by omega))
    have hp := md_points hUT hR hA (fun w hw => by rw [eT 97 w (by omega)]; exact hT w hw) (fun w hw => by rw [eT 98 w (by omega)]; exact hO w hw) (orb j)
    obtain ⟨s1, s2, s3, s4⟩ := pt_spec hR hA (orb j)
    have hin : vp_in (nI (itr (tt R A) j u)) 24 := in_nI (l24 j) (by decide)
    have x24 := l24 j
    have y24 := l24 (j + 1)
    have o16 := (hR.1 _ (hA _ (orb j))).2.1
    have e98 : gi T 98 (itr (tt R A) j u) = nI (R.2.2.2 (itr (tt R A) j u)) := by rw [eT 98 _ (by omega)]; exact hO _ (hA _ (orb j))
    have e85 : gi T 85 (pt R A (itr (tt R A) j u)) = nI (itr (tt R A) (j + 1) u) := by rw [eT 85 _ (by omega), hU.2.2.2.2.1 _ s1]; exact s3
    have hcnt : nI (c + cntP (fun w => (∃ i, i < j + 1 ∧ w = itr (tt R A) i u) ∧ ¬ pt R A w = R.2.2.2 w) 24) = nI (c + cntP (fun w => (∃ i, i < j ∧ w = itr (tt R A) i u) ∧ ¬ pt R A w = R.2.2.2 w) 24) + (if nI (pt R A (itr (tt R A) j u)) = nI (R.2.2.2 (itr (tt R A) j u)) then 0 else 1) := by
      have e := cntP_add (r := fun w => (∃ i, i < j + 1 ∧ w = itr (tt R A) i u) ∧ ¬ pt R A w = R.2.2.2 w) (p := fun w => (∃ i, i < j ∧ w = itr (tt R A) i u) ∧ ¬ pt R A w = R.2.2.2 w) (q := fun w => w = itr (tt R A) j u ∧ ¬ pt R A w = R.2.2.2 w) (n := 24) (fun w _ => by
        constructor
        · rintro ⟨⟨i, i1, i2⟩, x⟩
          by_cases y : i = j
          · exact Or.inr ⟨by rw [i2, y], x⟩
          · exact Or.inl ⟨⟨i, by omega, i2⟩, x⟩
        · rintro (⟨⟨i, i1, i2⟩, x⟩ | ⟨y, x⟩)
          · exact ⟨⟨i, by omega, i2⟩, x⟩
          · exact ⟨⟨j, by omega, y⟩, x⟩) (fun w _ => by
        rintro ⟨⟨⟨i, i1, i2⟩, -⟩, y, -⟩
        exact itr_ne h hmin i1 hj (by rw [← i2, y]))
      rw [e]
      by_cases y : pt R A (itr (tt R A) j u) = R.2.2.2 (itr (tt R A) j u)
      · rw [if_pos (by rw [y]), show cntP (fun w => w = itr (tt R A) j u ∧ ¬ pt R A w = R.2.2.2 w) 24 = 0 by
          rcases Nat.eq_zero_or_pos (cntP (fun w => w = itr (tt R A) j u ∧ ¬ pt R A w = R.2.2.2 w) 24) with q | q
          · exact q
          · exfalso
            have : cntP (fun w => w = itr (tt R A) j u ∧ ¬ pt R A w = R.2.2.2 w) 24 = cntP (fun _ => False) 24 := cntP_congr (fun w _ => ⟨fun h => h.2 (by rw [h.1]; exact y), fun h => h.elim⟩)
            have h0 : ∀ n, cntP (fun _ => False) n = 0 := fun n => by
              induction n with
              | zero => rfl
              | succ n ih => rw [cntP, ih, pif_neg (fun x => x)]
            rw [h0] at this
            omega]
        exact (nI_add _ 0).symm
      · rw [if_neg (fun z => y (nI_inj (by omega) (by omega) z)), cntP_one (p := fun w => w = itr (tt R A) j u ∧ ¬ pt R A w = R.2.2.2 w) (v := itr (tt R A) j u) x24 (fun w _ => ⟨fun h => h.1, fun h => ⟨h, by rw [h]; exact y⟩⟩), nI_1]
        rfl
    have unf : ∀ J : Int32 → Int32 → AS → Option (Int32 × AS), f_Md_rings_L185 J z (nI u) (f + 1) (nI (c + cntP (fun w => (∃ i, i < j ∧ w = itr (tt R A) i u) ∧ ¬ pt R A w = R.2.2.2 w) 24)) (nI (itr (tt R A) j u)) 1 T = f_Md_rings_L185 J z (nI u) f (nI (c + cntP (fun w => (∃ i, i < j + 1 ∧ w = itr (tt R A) i u) ∧ ¬ pt R A w = R.2.2.2 w) 24)) (nI (itr (tt R A) (j + 1) u)) (if itr (tt R A) (j + 1) u = u then 0 else 1) (si T 96 (itr (tt R A) j u) (nI (pt R A (itr (tt R A) j u)))) := fun J => by
      have e96 : gi (si T 96 (itr (tt R A) j u) (nI (pt R A (itr (tt R A) j u)))) 96 (itr (tt R A) j u) = nI (pt R A (itr (tt R A) j u)) := by rw [gi_si, if_pos ⟨rfl, rfl⟩]
      have e98' : gi (si T 96 (itr (tt R A) j u) (nI (pt R A (itr (tt R A) j u)))) 98 (itr (tt R A) j u) = nI (R.2.2.2 (itr (tt R A) j u)) := by rw [gi_si, if_neg (by omega)]; exact e98
      have e85' : gi (si T 96 (itr (tt R A) j u) (nI (pt R A (itr (tt R A) j u)))) 85 (pt R A (itr (tt R A) j u)) = nI (itr (tt R A) (j + 1) u) := by rw [gi_si, if_neg (by omega)]; exact e85
      have u24 := l24 0
      have u24' : u < 24 := u24
      rw [f_Md_rings_L185, if_neg ne10, hp, bI_eq, chk_pos hin, ix_nI (n := itr (tt R A) j u) (by omega)]
      simp only [nm_k]
      rw [e96, e98', chk_pos hin, chk_pos hin, chk_pos hin, chk_pos (in_nI (show pt R A (itr (tt R A) j u) < 16 by omega) (by decide)), ix_nI (n := pt R A (itr (tt R A) j u)) (by omega), e85', hcnt]
      by_cases y : nI (pt R A (itr (tt R A) j u)) = nI (R.2.2.2 (itr (tt R A) j u))
      · rw [if_pos y, if_pos y]
        by_cases x : itr (tt R A) (j + 1) u = u
        · rw [if_pos (by rw [x]), if_pos x]
        · rw [if_neg (fun q => x (nI_inj (by omega) (by omega) q)), if_neg x]
      · rw [if_neg y, if_neg y, chk_pos hin, chk_pos (in_nI (show pt R A (itr (tt R A) j u) < 16 by omega) (by decide))]
        by_cases x : itr (tt R A) (j + 1) u = u
        · rw [if_pos (by rw [x]), if_pos x]
        · rw [if_neg (fun q => x (nI_inj (by omega) (by omega) q)), if_neg x]
    have fr1 : fr (fun c _ => c = 96) U (si T 96 (itr (tt R A) j u) (nI (pt R A (itr (tt R A) j u)))) := hfr.si rfl
    have g1 : ∀ i, i < j + 1 → gi (si T 96 (itr (tt R A) j u) (nI (pt R A (itr (tt R A) j u)))) 96 (itr (tt R A) i u) = nI (pt R A (itr (tt R A) i u)) := fun i hi => by
      rw [gi_si]
      by_cases y : i = j
      · rw [if_pos ⟨rfl, by rw [y]⟩, y]
      · rw [if_neg (fun q => itr_ne h hmin (show i < j by omega) hj q.2)]; exact h1 i (by omega)
    have g2 : ∀ w, (¬ ∃ i, i < j + 1 ∧ w = itr (tt R A) i u) → gi (si T 96 (itr (tt R A) j u) (nI (pt R A (itr (tt R A) j u)))) 96 w = gi U 96 w := fun w hw => by
      rw [gi_si, if_neg (fun q => hw ⟨j, by omega, q.2⟩)]
      exact h2 w (fun ⟨i, i1, i2⟩ => hw ⟨i, by omega, i2⟩)
    by_cases x : j + 1 = d
    · have e : itr (tt R A) (j + 1) u = u := by rw [x]; exact h
      rw [if_pos e, e, x] at unf
      refine ⟨_, fun J => ?_, fr1, fun i hi => g1 i (by omega), fun w hw => g2 w (by rw [x]; exact hw)⟩
      rw [unf]
      obtain ⟨f', rfl⟩ : ∃ f', f = f' + 1 := ⟨f - 1, by omega⟩
      rw [f_Md_rings_L185, if_pos rfl]
    · have e : ¬ itr (tt R A) (j + 1) u = u := hmin (j + 1) (by omega) (by omega)
      rw [if_neg e] at unf
      obtain ⟨T', c1, c2⟩ := ih (j + 1) _ (by omega) (by omega) fr1 g1 g2
      exact ⟨T', fun J => by rw [unf]; exact c1 J, c2⟩
