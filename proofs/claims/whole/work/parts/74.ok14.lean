theorem cntP_none {p : Nat → Prop} {n : Nat} (h : ∀ w, w < n → ¬ p w) : cntP p n = 0 := by
  induction n with
  | zero => rfl
  | succ n ih => rw [cntP, ih (fun w hw => h w (by omega)), pif_neg (h n (by omega))]
theorem itr_mod {f : Nat → Nat} {d u : Nat} (h : itr f d u = u) (i : Nat) : itr f i u = itr f (i % d) u := by
  have e := Nat.mod_add_div i d
  rw [← e, itr_add, itr_mul h, e]
theorem rg_out {U : AS} {R : RD} {A0 A : Nat → Prop} {Q P u d : Nat} (hQ : Q ≤ 16) (hP24 : P ≤ 24) (h85 : ∀ q, q < Q → gi U 85 q = R.1 q) (hR : RG R A0 Q) (hA : ∀ w, A w → A0 w) (hP : ∀ w, A0 w → w < P) (hu : A u) (hd : 1 ≤ d) (h : itr (tt R A) d u = u) (hmin : ∀ e, 1 ≤ e → e < d → ¬ itr (tt R A) e u = u) (hg : ∀ i, i < d → gi U 96 (itr (tt R A) i u) = nI (pt R A (itr (tt R A) i u))) {z : Int32} : ∀ (f j : Nat) (T : AS), j < d → d - j + 1 < f → fr (fun c _ => c = 97) U T → (∀ w, w < P → gi T 97 w = pif (A w ∧ ¬ ∃ i, i < j ∧ w = itr (tt R A) i u) 1 0) → ∃ T', (∀ J : Int32 → AS → Option (Int32 × AS), f_Md_rings_L255 J z (nI u) f (nI (cntP (fun w => A w ∧ ¬ ∃ i, i < j ∧ w = itr (tt R A) i u) P)) (nI (itr (tt R A) j u)) 1 T = J (nI (cntP (fun w => A w ∧ ¬ ∃ i, i < d ∧ w = itr (tt R A) i u) P)) T') ∧ fr (fun c _ => c = 97) U T' ∧ ∀ w, w < P → gi T' 97 w = pif (A w ∧ ¬ ∃ i, i < d ∧ w = itr (tt R A) i u) 1 0 := by
  have orb := itr_in hR hA hu
  have lP : ∀ i, itr (tt R A) i u < P := fun i => hP _ (hA _ (orb i))
  intro f
  induction f with
  | zero => intro j T _ h; omega
  | succ f ih =>
    intro j T hj hf hfr h1
    have eT : ∀ c k, ¬ c = 97 → gi T c k = gi U c k := fun c k hc => hfr.2.1 c k hc
    obtain ⟨s1, s2, s3, s4⟩ := pt_spec hR hA (orb j)
    have x24 := lP j
    have y24 := lP (j + 1)
    have u24 : u < P := lP 0
    have hin : vp_in (nI (itr (tt R A) j u)) 24 := in_nI (by omega) (by decide)
    have hc : cntP (fun w => A w ∧ ¬ ∃ i, i < j ∧ w = itr (tt R A) i u) P = cntP (fun w => A w ∧ ¬ ∃ i, i < j + 1 ∧ w = itr (tt R A) i u) P + 1 := by
      have e1 := cntP_one (p := fun w => w = itr (tt R A) j u) (n := P) x24 (fun w _ => Iff.rfl)
      suffices e2 : cntP (fun w => A w ∧ ¬ ∃ i, i < j ∧ w = itr (tt R A) i u) P = cntP (fun w => A w ∧ ¬ ∃ i, i < j + 1 ∧ w = itr (tt R A) i u) P + cntP (fun w => w = itr (tt R A) j u) P by rw [e2, e1]
      refine cntP_add (fun w _ => ?_) (fun w _ h => h.1.2 ⟨j, by omega, h.2⟩)
      constructor
      · intro h
        by_cases y : w = itr (tt R A) j u
        · exact Or.inr y
        · refine Or.inl ⟨h.1, fun ⟨i, i1, i2⟩ => ?_⟩
          by_cases x : i = j
          · exact y (by rw [i2, x])
          · exact h.2 ⟨i, by omega, i2⟩
      · intro h'
        rcases h' with x | x
        · exact ⟨x.1, fun ⟨i, i1, i2⟩ => x.2 ⟨i, by omega, i2⟩⟩
        · exact ⟨by rw [x]; exact orb j, fun ⟨i, i1, i2⟩ => itr_ne h hmin i1 hj (by rw [← i2, x])⟩
    have unf : ∀ J : Int32 → AS → Option (Int32 × AS), f_Md_rings_L255 J z (nI u) (f + 1) (nI (cntP (fun w => A w ∧ ¬ ∃ i, i < j ∧ w = itr (tt R A) i u) P)) (nI (itr (tt R A) j u)) 1 T = f_Md_rings_L255 J z (nI u) f (nI (cntP (fun w => A w ∧ ¬ ∃ i, i < j + 1 ∧ w = itr (tt R A) i u) P)) (nI (itr (tt R A) (j + 1) u)) (if itr (tt R A) (j + 1) u = u then 0 else 1) (si T 97 (itr (tt R A) j u) 0) := fun J => by
      have e96 : gi (si T 97 (itr (tt R A) j u) 0) 96 (itr (tt R A) j u) = nI (pt R A (itr (tt R A) j u)) := by rw [gi_si, if_neg (by omega), eT 96 _ (by omega)]; exact hg j hj
      have e85 : gi (si T 97 (itr (tt R A) j u) 0) 85 (pt R A (itr (tt R A) j u)) = nI (itr (tt R A) (j + 1) u) := by rw [gi_si, if_neg (by omega), eT 85 _ (by omega), h85 _ s1]; exact s3
      rw [f_Md_rings_L255, if_neg ne10, chk_pos hin, ix_nI (n := itr (tt R A) j u) (by omega), show vp_nar .boolean 0 = 0 from rfl]
      simp only [nm_k]
      rw [e96, chk_pos hin, chk_pos (in_nI (show pt R A (itr (tt R A) j u) < 16 by omega) (by decide)), ix_nI (n := pt R A (itr (tt R A) j u)) (by omega), e85, hc, pk_m1]
      by_cases x : itr (tt R A) (j + 1) u = u
      · rw [if_pos (by rw [x]), if_pos x]
      · rw [if_neg (fun q => x (nI_inj (by omega) (by omega) q)), if_neg x]
    have fr1 : fr (fun c _ => c = 97) U (si T 97 (itr (tt R A) j u) 0) := hfr.si rfl
    have g1 : ∀ w, w < P → gi (si T 97 (itr (tt R A) j u) 0) 97 w = pif (A w ∧ ¬ ∃ i, i < j + 1 ∧ w = itr (tt R A) i u) 1 0 := fun w hw => by
      rw [gi_si]
      by_cases y : w = itr (tt R A) j u
      · rw [if_pos ⟨rfl, y⟩, pif_neg (fun q => q.2 ⟨j, by omega, y⟩)]
      · rw [if_neg (fun q => y q.2), h1 w hw]
        by_cases x : A w ∧ ¬ ∃ i, i < j ∧ w = itr (tt R A) i u
        · rw [pif_pos x, pif_pos ⟨x.1, fun ⟨i, i1, i2⟩ => by
            by_cases v : i = j
            · exact y (by rw [i2, v])
            · exact x.2 ⟨i, by omega, i2⟩⟩]
        · rw [pif_neg x, pif_neg (fun q => x ⟨q.1, fun ⟨i, i1, i2⟩ => q.2 ⟨i, by omega, i2⟩⟩)]
    by_cases x : j + 1 = d
    · have e : itr (tt R A) (j + 1) u = u := by rw [x]; exact h
      rw [if_pos e, e, x] at unf
      refine ⟨_, fun J => ?_, fr1, fun w hw => by rw [← x]; exact g1 w hw⟩
      rw [unf]
      obtain ⟨f', rfl⟩ : ∃ f', f = f' + 1 := ⟨f - 1, by omega⟩
      rw [f_Md_rings_L255, if_pos rfl]
    · have e : ¬ itr (tt R A) (j + 1) u = u := hmin (j + 1) (by omega) (by omega)
      rw [if_neg e] at unf
      obtain ⟨T', c1, c2⟩ := ih (j + 1) _ (by omega) (by omega) fr1 g1
      exact ⟨T', fun J => by rw [unf]; exact c1 J, c2⟩
theorem rg_find {T : AS} {A : Nat → Prop} {P w0 : Nat} (hP : P ≤ 24) (hw : w0 < P) (hA : A w0) (hno : ∀ v, v < w0 → ¬ A v) (hT : THR T A P) {z1 z2 : Int32} : ∀ (f i : Nat), i ≤ w0 → w0 - i < f → ∀ J : Int32 → AS → Option (Int32 × AS), f_Md_rings_L135 J z1 z2 f (nI i) T = J (nI w0) T := by
  intro f
  induction f with
  | zero => intro i _ h; omega
  | succ f ih =>
    intro i hi hf J
    rw [f_Md_rings_L135, chk_pos (in_nI (by omega) (by decide)), ix_nI (by omega), hT i (by omega)]
    by_cases e : i = w0
    · rw [e, pif_pos hA, if_neg ne10]
    · rw [pif_neg (hno i (by omega)), if_pos rfl, nI_1]
      exact ih (i + 1) (by omega) (by omega) J
theorem rg_walk {U : AS} {R : RD} {A0 A : Nat → Prop} {Q P w0 : Nat} (hU : MRN U R Q P) (hR : RG R A0 Q) (hA : ∀ w, A w → A0 w) (hT : THR U A P) (hO : ∀ w, A0 w → gi U 98 w = nI (R.2.2.2 w)) (hw : A w0) {z1 z2 : Int32} : ∀ (f i : Nat), i ≤ P → P - i < f → ∀ J : Int32 → AS → Option (Int32 × AS), f_Md_rings_L153 J z1 z2 f (nI (itr (tt R A) i w0)) (nI i) U = J (nI (itr (tt R A) P w0)) U := by
  have orb := itr_in hR hA hw
  have hQ := hU.1
  have hP := hU.2.1
  intro f
  induction f with
  | zero => intro i _ h; omega
  | succ f ih =>
    intro i hi hf J
    rw [f_Md_rings_L153, hU.2.2.1]
    rcases Nat.lt_or_ge i P with q | q
    · obtain ⟨s1, s2, s3, s4⟩ := pt_spec hR hA (orb i)
      rw [if_neg (nI_ge q (by omega)), md_points hU hR hA hT hO (orb i), bI_eq, chk_pos (in_nI (by omega) (by decide)), ix_nI (by omega), hU.2.2.2.2.1 _ s1, s3]
      simp only [nm_k]
      rw [nI_1]
      exact ih (i + 1) (by omega) (by omega) J
    · rw [if_pos (nI_le q (by omega)), show i = P by omega]
theorem rg_main {R : RD} {A0 : Nat → Prop} {Q P : Nat} {g : Nat → Nat} (hR : RG R A0 Q) (hP : ∀ w, A0 w → w < P) (hg : ∀ w r, cyc R (mA R A0 r) w → pt R (mA R A0 r) w = g w) : ∀ (f : Nat) (A : Nat → Prop) (T : AS), (∀ w, A w → A0 w) → RCL R A0 A → MRN T R Q P → THR T A P → (∀ w, A0 w → gi T 98 w = nI (R.2.2.2 w)) → (∀ w, w < P → gi T 96 w = pif (A0 w ∧ ¬ A w) (nI (g w)) (-1)) → cntP A P < f → ∃ T', (∀ J : Int32 → AS → Option (Int32 × AS), f_Md_rings_L129 J f (nI (cntP A P)) (nI (cntP (fun w => A0 w ∧ ¬ A w ∧ ¬ g w = R.2.2.2 w) 24)) T = J (nI (cntP (fun w => A0 w ∧ ¬ g w = R.2.2.2 w) 24)) T') ∧ fr (fun c _ => c = 96 ∨ c = 97) T T' ∧ ∀ w, w < P → gi T' 96 w = pif (A0 w) (nI (g w)) (-1) := by
  have hall : ∀ w, A0 w → ∃ r, cyc R (mA R A0 r) w := fun w hw => by
    obtain ⟨r, -, h⟩ := mA_all hR hw
    exact ⟨r, h⟩
  intro f
  induction f with
  | zero => intro A T _ _ _ _ _ _ h; omega
  | succ f ih =>
    intro A T hA hcl hM hT hO h96 hf
    obtain ⟨hQ, hP24, -⟩ := id hM
    by_cases ha : ∃ w, A w
    · obtain ⟨w0, hw0, hno⟩ := least ha
      have w0P := hP w0 (hA w0 hw0)
      have orb := itr_in hR hA hw0
      have lP : ∀ i, itr (tt R A) i w0 < P := fun i => hP _ (hA _ (orb i))
      obtain ⟨d0, p1, p2⟩ := itr_reach (N := P) (fun i _ => lP i) (Nat.le_refl P)
      have hu : A (itr (tt R A) P w0) := orb P
      generalize hue : itr (tt R A) P w0 = u at p2 hu
      obtain ⟨d, ⟨d1, d2⟩, dmin⟩ := least (P := fun d => 1 ≤ d ∧ itr (tt R A) d u = u) ⟨d0, p1, p2⟩
      have hmin : ∀ e, 1 ≤ e → e < d → ¬ itr (tt R A) e u = u := fun e e1 e2 e3 => dmin e e2 ⟨e1, e3⟩
      have hcy : cyc R A u := ⟨hu, d, d1, d2⟩
      have orbu := itr_in hR hA hu
      have lu : ∀ i, itr (tt R A) i u < P := fun i => hP _ (hA _ (orbu i))
      have hor : ∀ w, (∃ i, i < d ∧ w = itr (tt R A) i u) ↔ ∃ i, w = itr (tt R A) i u := fun w => ⟨fun ⟨i, _, h⟩ => ⟨i, h⟩, fun ⟨i, h⟩ => ⟨i % d, Nat.mod_lt _ (by omega), by rw [← itr_mod d2]; exact h⟩⟩
      obtain ⟨r, hfo⟩ := follow hR hA hall hcl hcy
      have gpt : ∀ i, pt R A (itr (tt R A) i u) = g (itr (tt R A) i u) := fun i => by rw [(hfo i).2]; exact hg _ r (hfo i).1
      obtain ⟨T1, a1, a2, a3, a4⟩ := rg_got (z := nI (cntP A P)) (c := cntP (fun w => A0 w ∧ ¬ A w ∧ ¬ g w = R.2.2.2 w) 24) hM hR hA hP hT hO hu d1 d2 hmin FU 0 T (by omega) (by
        obtain ⟨e', e1, e2, e3⟩ := itr_small (N := 24) (fun i _ => by have := lu i; omega) d1 d2
        rw [FU_succ]
        rcases Nat.lt_or_ge e' d with x | x
        · exact absurd e3 (hmin e' e1 x)
        · omega) (fr_rf _ _) (fun i hi => by omega) (fun w _ => rfl)
      have hd24 : d ≤ 24 := by
        obtain ⟨e', e1, e2, e3⟩ := itr_small (N := 24) (fun i _ => by have := lu i; omega) d1 d2
        rcases Nat.lt_or_ge e' d with x | x
        · exact absurd e3 (hmin e' e1 x)
        · omega
      rw [cntP_none (p := fun w => (∃ i, i < 0 ∧ w = itr (tt R A) i u) ∧ ¬ pt R A w = R.2.2.2 w) (n := 24) (fun w _ h => by obtain ⟨⟨i, i1, -⟩, -⟩ := h; omega), Nat.add_zero] at a1
      obtain ⟨T2, b1, b2, b3⟩ := rg_out (U := T1) (z := nI (cntP (fun w => A0 w ∧ ¬ A w ∧ ¬ g w = R.2.2.2 w) 24 + cntP (fun w => (∃ i, i < d ∧ w = itr (tt R A) i u) ∧ ¬ pt R A w = R.2.2.2 w) 24)) hQ hP24 (fun q hq => by rw [a2.2.1 85 q (by omega)]; exact hM.2.2.2.2.1 q hq) hR hA hP hu d1 d2 hmin a3 FU 0 T1 (by omega) (by rw [FU_succ]; omega) (fr_rf _ _) (fun w hw => by
        rw [a2.2.1 97 w (by omega), hT w hw]
        by_cases x : A w
        · rw [pif_pos x, pif_pos ⟨x, fun ⟨i, i1, _⟩ => by omega⟩]
        · rw [pif_neg x, pif_neg (fun h => x h.1)])
      rw [cntP_congr (p := fun w => A w ∧ ¬ ∃ i, i < 0 ∧ w = itr (tt R A) i u) (q := A) (n := P) (fun w _ => ⟨fun h => h.1, fun h => ⟨h, fun ⟨i, i1, _⟩ => by omega⟩⟩), cntP_congr (p := fun w => A w ∧ ¬ ∃ i, i < d ∧ w = itr (tt R A) i u) (q := fun v => A v ∧ ¬ ∃ i, v = itr (tt R A) i u) (n := P) (fun w _ => by rw [hor w])] at b1
      have hA' : ∀ w, (A w ∧ ¬ ∃ i, w = itr (tt R A) i u) → A0 w := fun w h => hA w h.1
      have fT2 : fr (fun c _ => c = 96 ∨ c = 97) T T2 := (a2.mono (fun c k h => Or.inl h)).tr (b2.mono (fun c k h => Or.inr h))
      have hcnt : cntP (fun w => A0 w ∧ ¬ (A w ∧ ¬ ∃ i, w = itr (tt R A) i u) ∧ ¬ g w = R.2.2.2 w) 24 = cntP (fun w => A0 w ∧ ¬ A w ∧ ¬ g w = R.2.2.2 w) 24 + cntP (fun w => (∃ i, i < d ∧ w = itr (tt R A) i u) ∧ ¬ pt R A w = R.2.2.2 w) 24 := by
        refine cntP_add (fun w _ => ?_) (fun w _ h => by
          obtain ⟨⟨-, x, -⟩, ⟨i, -, i2⟩, -⟩ := h
          exact x (by rw [i2]; exact orbu i))
        constructor
        · rintro ⟨x, y, v⟩
          by_cases hw : A w
          · have hex : ∃ i, w = itr (tt R A) i u := by
              by_cases q : ∃ i, w = itr (tt R A) i u
              · exact q
              · exact absurd ⟨hw, q⟩ y
            refine Or.inr ⟨(hor w).mpr hex, ?_⟩
            obtain ⟨i, i2⟩ := hex
            rw [i2, gpt i, ← i2]; exact v
          · exact Or.inl ⟨x, hw, v⟩
        · rintro (⟨x, y, v⟩ | ⟨x, v⟩)
          · exact ⟨x, fun h => y h.1, v⟩
          · have hex := (hor w).mp x
            refine ⟨?_, fun h => h.2 hex, ?_⟩
            · obtain ⟨i, i2⟩ := hex
              rw [i2]; exact hA _ (orbu i)
            · obtain ⟨i, i2⟩ := hex
              rw [i2, ← gpt i, ← i2]; exact v
      have hlt : cntP (fun v => A v ∧ ¬ ∃ i, v = itr (tt R A) i u) P < cntP A P := by
        have e := cntP_add (r := A) (p := fun v => A v ∧ ¬ ∃ i, v = itr (tt R A) i u) (q := fun v => A v ∧ ∃ i, v = itr (tt R A) i u) (n := P) (fun w _ => ⟨fun h => by
          by_cases x : ∃ i, w = itr (tt R A) i u
          · exact Or.inr ⟨h, x⟩
          · exact Or.inl ⟨h, x⟩, fun h => by
          rcases h with h | h
          · exact h.1
          · exact h.1⟩) (fun w _ h => h.1.2 h.2.2)
        have := cntP_pos (p := fun v => A v ∧ ∃ i, v = itr (tt R A) i u) (lu 0) ⟨hu, 0, rfl⟩
        omega
      obtain ⟨T', c1, c2, c3⟩ := ih (fun v => A v ∧ ¬ ∃ i, v = itr (tt R A) i u) T2 hA' (hcl.out hR hA hall hcy) (hM.mv (fun c k hc => fT2.2.1 c k (by omega))) (fun w hw => by rw [b3 w hw, show (A w ∧ ¬ ∃ i, i < d ∧ w = itr (tt R A) i u) = (A w ∧ ¬ ∃ i, w = itr (tt R A) i u) by rw [hor w]]) (fun w hw => by rw [fT2.2.1 98 w (by omega)]; exact hO w hw) (fun w hw => by
        rw [b2.2.1 96 w (by omega)]
        by_cases x : ∃ i, i < d ∧ w = itr (tt R A) i u
        · obtain ⟨i, i1, i2⟩ := id x
          rw [pif_pos ⟨by rw [i2]; exact hA _ (orbu i), fun h => h.2 ⟨i, i2⟩⟩, i2, a3 i i1, gpt i]
        · rw [a4 w x, h96 w hw]
          by_cases y : A0 w ∧ ¬ A w
          · rw [pif_pos y, pif_pos ⟨y.1, fun h => y.2 h.1⟩]
          · rw [pif_neg y, pif_neg (fun h => y ⟨h.1, fun q => h.2 ⟨q, fun v => x ((hor w).mpr v)⟩⟩)]) (by omega)
      refine ⟨T', fun J => ?_, fT2.tr c2, c3⟩
      have hpos := cntP_pos (p := A) w0P hw0
      have hle := cntP_le A P
      rw [f_Md_rings_L129, if_neg (nI_nle (by omega) (by omega))]
      simp only [nm_k]
      have f0 := rg_find (z1 := nI (cntP A P)) (z2 := nI (cntP (fun w => A0 w ∧ ¬ A w ∧ ¬ g w = R.2.2.2 w) 24)) hP24 w0P hw0 (fun v hv => hno v hv) hT FU 0 (by omega) (by rw [FU_succ]; omega)
      rw [nI_0] at f0
      have f1 := rg_walk (z1 := nI (cntP A P)) (z2 := nI (cntP (fun w => A0 w ∧ ¬ A w ∧ ¬ g w = R.2.2.2 w) 24)) hM hR hA hT hO hw0 FU 0 (by omega) (by rw [FU_succ]; omega)
      rw [nI_0, hue, show itr (tt R A) 0 w0 = w0 from rfl] at f1
      rw [show itr (tt R A) 0 u = u from rfl] at a1 b1
      rw [f0, f1, a1, b1, ← hcnt]
      exact c1 J
    · have e0 : cntP A P = 0 := cntP_none (fun w _ h => ha ⟨w, h⟩)
      refine ⟨T, fun J => ?_, fr_rf _ _, fun w hw => ?_⟩
      · rw [f_Md_rings_L129, e0, if_pos (by decide), cntP_congr (p := fun w => A0 w ∧ ¬ A w ∧ ¬ g w = R.2.2.2 w) (q := fun w => A0 w ∧ ¬ g w = R.2.2.2 w) (n := 24) (fun w _ => ⟨fun h => ⟨h.1, h.2.2⟩, fun h => ⟨h.1, fun x => ha ⟨w, x⟩, h.2⟩⟩)]
      · rw [h96 w hw]
        by_cases x : A0 w
        · rw [pif_pos ⟨x, fun y => ha ⟨w, y⟩⟩, pif_pos x]
        · rw [pif_neg (fun h => x h.1), pif_neg x]
def pRn (c k : Nat) : Prop := (66 ≤ c ∧ c ≤ 68) ∨ (c = 70 ∧ (k = 41 ∨ k = 42)) ∨ (85 ≤ c ∧ c ≤ 92) ∨ (96 ≤ c ∧ c ≤ 98)
theorem INV.rings {m : Nat} {S S' : AS} (h : INV m S) (hfr : fr pRn S S') (hJ' : iJ S') : INV m S' := by
  obtain ⟨hs, hA, hB, hC, hO, hD, hE, hG, hH, hU, hJ, ⟨w, hw, ew⟩, hF, hK⟩ := h
  exact ⟨hfr.sh hs, hA.fr hfr (fun c k hd hp => by unfold dA at hd; unfold pRn at hp; omega), hB.fr hfr (fun c k hd hp => by unfold dB at hd; unfold pRn at hp; omega), hC.fr hfr (fun c k hd hp => by unfold dC at hd; unfold pRn at hp; omega), hO.fr hfr (fun c k hd hp => by unfold dO at hd; unfold pRn at hp; omega), hD.fr hfr (fun c k hd hp => by unfold dD at hd; unfold pRn at hp; omega), hE.fr hfr (fun c k hd hp => by unfold dE at hd; unfold pRn at hp; omega), hG.fr hfr (fun c k hd hp => by unfold dG at hd; unfold pRn at hp; omega), hH.fr hfr (fun c k hd hp => by unfold dH at hd; unfold pRn at hp; omega), hU.fr hfr (fun c k hd hp => by unfold dU at hd; unfold pRn at hp; omega), hJ', ⟨w, hw, by rw [hfr.2.1 16 8 (by unfold pRn; omega)]; exact ew⟩, hF.fr hfr (fun c k hd hp => by unfold dF at hd; unfold pRn at hp; omega), hK.fr hfr (fun c k hd hp => by unfold dK at hd; unfold pRn at hp; omega) hB hD⟩
theorem ok_rings {m : Nat} {S : AS} (hm : m < 600) (h : INV m S) : ∃ (r : Int32) (S1 S2 : AS), f_Chan_rings S = some (r, S1) ∧ f_Md_rings S1 = some (r, S2) ∧ INV (m + 1) S2 := by
  obtain ⟨hs, hA, hB, hC, hO, hD, hE, hG, hH, hU, hJ, hW, hF, hK⟩ := id h
  obtain ⟨hP, hQ, e1, e2, e3, e4, bP, bQ⟩ := id hB
  obtain ⟨n, hn, k1, k2⟩ := known_ok h
  obtain ⟨T, D, W, kn, P, K, M, l, t1, t2, t3, t4, t5, t6, -⟩ := tell_ok h hn LAST_bnd
  have eT : ∀ c k, c ≤ 48 ∨ 60 ≤ c → gi T c k = gi S c k := fun c k hc => t2.2.1 c k (by unfold pCT; omega)
  obtain ⟨q1, q2, q3⟩ := t4.eqs
  have nQT : nQ T = nQ S := by unfold nQ; rw [eT 70 4 (by omega)]
  have nPT : nP T = nP S := by unfold nP; rw [eT 70 2 (by omega)]
  have hxk := XOK.dat t4
  have hWP : ∀ w, W w → w < P := fun w hw => (t4.2.2.1.2.2.2.2.2.2.2.2.1 w hw).1
  have hXh : ∀ q, q < nQ S → gi (mrun D l M) 85 q = -1 ∨ ∃ w, w < nP S ∧ gi (mrun D l M) 85 q = nI w := fun q hq => by
    rcases hxk.1 q (by omega) with z | ⟨w, w1, w2⟩
    · exact Or.inl z
    · exact Or.inr ⟨w, by have := hWP w w1; omega, w2⟩
  have hTRN : TRN T (mrun D l M) (nQ S) := ⟨hQ, fun q hq => by
    rcases hXh q hq with z | ⟨w, w1, w2⟩
    · exact Or.inl z
    · exact Or.inr ⟨w, by omega, w2⟩, fun q hq => (t5.1 q (by omega)).1, fun w hw => by
    obtain ⟨x, x1, x2, x3, x4⟩ := hU w hw
    refine ⟨x, x1, by rw [eT 65 w (by omega)]; exact x2, fun i hi => ?_⟩
    obtain ⟨y1, p, y2, y3⟩ := x4 i hi
    exact ⟨p, y2, by rw [eT 64 _ (by omega), y1]; exact y3⟩⟩
  have hR := mRG (S := T) (X := mrun D l M) hQ hTRN.2.2.2
  obtain ⟨g, hg⟩ := gf_ex (mRD T (mrun D l M) (nQ S)) (mA0 (mrun D l M) (nQ S))
  obtain ⟨V, v1, v2, v3⟩ := cl_turn hTRN hg
  have eV : ∀ c k, ¬ (66 ≤ c ∧ c ≤ 68) → gi V c k = gi T c k := fun c k hc => v2.2.1 c k (by unfold pXc; omega)
  have hAP : ∀ w, mA0 (mrun D l M) (nQ S) w → w < nP S := fun w hw => by
    obtain ⟨a, b, c, d⟩ := hR.1 w hw
    rcases hXh _ b with z | ⟨v, w1, w2⟩
    · have c' : gi (mrun D l M) 85 ((mRD T (mrun D l M) (nQ S)).2.2.2 w) = nI w := c
      rw [z] at c'
      exact absurd c'.symm (nI_ne_m1 (by omega))
    · have c' : gi (mrun D l M) 85 ((mRD T (mrun D l M) (nQ S)).2.2.2 w) = nI w := c
      rw [w2] at c'
      have := nI_inj (by omega) (by omega) c'
      omega
  have t4V : DAT V n 9999999 D W kn P K M l := t4.fg (fun c k hc => eV c k (by omega))
  obtain ⟨U, u1, u2, u3⟩ := goes_ok t4V
  have eU : ∀ c k, c < 85 ∨ 93 ≤ c → gi U c k = gi V c k := fun c k hc => u2.2.1 c k (by unfold pMG; omega)
  have fU0 : fr pRn T U := (v2.mono (fun c k h => by unfold pXc at h; unfold pRn; omega)).tr (u2.mono (fun c k h => by unfold pMG at h; unfold pRn; omega))
  have hU2 : gi U 70 2 = nI (nP S) := by rw [eU 70 2 (by omega), eV 70 2 (by omega), eT 70 2 (by omega)]; exact e1
  have hU4 : gi U 70 4 = nI (nQ S) := by rw [eU 70 4 (by omega), eV 70 4 (by omega), eT 70 4 (by omega)]; exact e3
  have fU1 : fr pRn T (si (si U 70 41 1) 70 42 (nI (nP S))) := (fU0.si (by unfold pRn; omega)).si (by unfold pRn; omega)
  have e1' : ∀ c k, ¬ c = 70 ∨ k ≤ 40 → gi (si (si U 70 41 1) 70 42 (nI (nP S))) c k = gi U c k := fun c k hc => by rw [gi_si, if_neg (by omega), gi_si, if_neg (by omega)]
  have g41 : gi (si (si U 70 41 1) 70 42 (nI (nP S))) 70 41 = 1 := by rw [gi_si, if_neg (by omega), gi_si, if_pos ⟨rfl, rfl⟩]
  have g42 : gi (si (si U 70 41 1) 70 42 (nI (nP S))) 70 42 = nI (nP S) := by rw [gi_si, if_pos ⟨rfl, rfl⟩]
  have ecode : f_Md_rings V = nm (fun (a6 : Int32) (S7 : AS) => nm (fun (a8 : Int32) (S9 : AS) => some (a8, S9)) fun J301 => f_Md_rings_L129 J301 FU a6 0 S7) fun J127 => f_Md_rings_L27 J127 FU 0 0 (si (si U 70 41 1) 70 42 (nI (nP S))) := by
    unfold f_Md_rings
    rw [k2 V (by rw [eV 70 14 (by omega), eT 70 14 (by omega)]) (by rw [eV 70 6 (by omega), eT 70 6 (by omega)]), bI_eq, u1, bV_eq]
    simp only [nm_k]
    rw [gi_si U 70 41 1 70 2, if_neg (by omega), hU2]
  generalize si (si U 70 41 1) 70 42 (nI (nP S)) = Y at fU1 e1' g41 g42 ecode
  obtain ⟨Z, z1, z2, z3⟩ := mo_out (X := mrun D l M) (K := K) hQ hP (show mQ D = nQ S by omega) FU 0 Y (by omega) (by rw [FU_succ]; omega) (by rw [e1' 70 2 (by omega)]; exact hU2) (by rw [e1' 70 4 (by omega)]; exact hU4) (fun q hq => by rw [e1' 85 q (by omega)]; exact (u3.1 q (by omega)).1)
  have eZ : ∀ c k, ¬ (96 ≤ c ∧ c ≤ 98) → gi Z c k = gi Y c k := fun c k hc => z2.2.1 c k (fun h => hc (by have := h.1; unfold pR3 at this; omega))
  have eZU : ∀ c k, ¬ (96 ≤ c ∧ c ≤ 98) → (¬ c = 70 ∨ k ≤ 40) → gi Z c k = gi U c k := fun c k h1 h2 => by rw [eZ c k h1]; exact e1' c k h2
  have hMRN : MRN Z (mRD T (mrun D l M) (nQ S)) (nQ S) (nP S) := ⟨hQ, hP, by rw [eZU 70 2 (by omega) (by omega)]; exact hU2, by rw [eZU 70 4 (by omega) (by omega)]; exact hU4, fun q hq => by rw [eZU 85 q (by omega) (by omega)]; exact (u3.1 q (by omega)).1, hXh, fun w hw => by
    obtain ⟨x, x1, x2, x3, x4⟩ := hU w hw
    have ex : (mRD T (mrun D l M) (nQ S)).2.1 w = x := by show ix (gi T 65 w) = x; rw [eT 65 w (by omega), x2]; exact ix_nI (by omega)
    rw [ex]
    refine ⟨x1, by rw [eZU 95 w (by omega) (by omega), eU 95 w (by omega), eV 95 w (by omega), eT 95 w (by omega)]; exact x3, fun i hi => ?_⟩
    obtain ⟨y1, p, y2, y3⟩ := x4 i hi
    have ep : (mRD T (mrun D l M) (nQ S)).2.2.1 w i = p := by show ix (gi T 64 (3 * w + i)) = p; rw [eT 64 _ (by omega), y1, y3]; exact ix_nI (by omega)
    rw [ep]
    exact ⟨y2, by rw [eZU 94 _ (by omega) (by omega), eU 94 _ (by omega), eV 94 _ (by omega), eT 94 _ (by omega)]; exact y3⟩⟩
  have hown : ∀ w, mA0 (mrun D l M) (nQ S) w → gi Z 98 w = nI ((mRD T (mrun D l M) (nQ S)).2.2.2 w) := fun w hw => by
    obtain ⟨q, a1, a2, -⟩ := lst_spec hw.2
    rw [(z3 w (by omega) (hAP w hw)).2.2 hw]
    show lst (mrun D l M) (nI w) (nQ S) = nI (ix (lst (mrun D l M) (nI w) (nQ S)))
    rw [a2, ix_nI (by omega)]
  have hc24 := cntP_le (mA0 (mrun D l M) (nQ S)) (nP S)
  obtain ⟨Z', y1, y2, y3⟩ := rg_main hR hAP hg FU (mA0 (mrun D l M) (nQ S)) Z (fun w h => h) (fun r w hw _ => mA_0 (pt_spec hR (fun w h => mA_0 h) hw.1).2.1) hMRN (fun w hw => (z3 w (by omega) hw).1) hown (fun w hw => by rw [(z3 w (by omega) hw).2.1, pif_neg (fun h => h.2 h.1)]) (by rw [FU_succ]; omega)
  rw [cntP_none (p := fun w => mA0 (mrun D l M) (nQ S) w ∧ ¬ mA0 (mrun D l M) (nQ S) w ∧ ¬ g w = (mRD T (mrun D l M) (nQ S)).2.2.2 w) (n := 24) (fun w _ h => h.2.1 h.1), nI_0] at y1
  rw [show cntP (mA0 (mrun D l M) (nQ S)) 0 = 0 from rfl, nI_0] at z1
  have fZ' : fr pRn T Z' := fU1.tr ((z2.mono (fun c k h => by have := h.1; unfold pR3 at this; unfold pRn; omega)).tr (y2.mono (fun c k h => by unfold pRn; omega)))
  refine ⟨nI (cntP (fun w => mA0 (mrun D l M) (nQ S) w ∧ ¬ g w = (mRD T (mrun D l M) (nQ S)).2.2.2 w) 24), V, Z', ?_, ?_, (t3.rings fZ' ?_).step⟩
  · unfold f_Chan_rings
    rw [k1, bI_eq, t1, bV_eq, eT 16 7 (by omega), e4, v1, bI_eq]
  · rw [ecode]
    simp only [nm_k]
    rw [z1, y1]
  · have w41 : gi Z' 70 41 = 1 := by rw [y2.2.1 70 41 (by omega), eZ 70 41 (by omega)]; exact g41
    have w42 : gi Z' 70 42 = nI (nP S) := by rw [y2.2.1 70 42 (by omega), eZ 70 42 (by omega)]; exact g42
    have nPZ : nP Z' = nP S := by unfold nP; rw [fZ'.2.1 70 2 (by unfold pRn; omega), eT 70 2 (by omega)]
    refine ⟨Or.inr w41, ⟨nP S, by omega, w42⟩, fun w hw => ?_⟩
    have e68 : gi Z' 68 w = gi V 68 w := by rw [y2.2.1 68 w (by omega), eZU 68 w (by omega) (by omega), eU 68 w (by omega)]
    rw [e68, v3 w hw, w41, w42]
    rcases Nat.lt_or_ge w (nP S) with q | q
    · rw [if_neg (fun z => by rcases z with z | z; exact absurd z ne10; exact absurd z (nI_ge q (by omega))), y3 w q]
    · rw [if_pos (Or.inr (nI_le q (by omega))), pif_neg (fun z => by have := hAP w z; omega)]
