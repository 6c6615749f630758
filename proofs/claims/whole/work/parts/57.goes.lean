/-! the reference's course: goes -/
theorem ltN_iff (D : DT) (a b : Nat) : ltN D a b ↔ (D 75 a).toInt < (D 75 b).toInt ∨ ((D 75 a).toInt = (D 75 b).toInt ∧ a < b) := by
  unfold ltN
  rw [Int32.lt_iff_toInt_lt, ← Int32.toInt_inj]
theorem gs_pick {D : DT} {n : Nat} (hn : n ≤ 160) {S : AS} (ht : ∀ k, 1 ≤ k → k ≤ n → gi S 75 k = D 75 k) : ∀ (f c : Nat) (x : Int32), 1 ≤ c → c ≤ n + 1 → n + 1 - c < f → ((x = -1 ∧ ∀ k, 1 ≤ k → k < c → ¬ gi S 92 k = 0) ∨ ∃ b, 1 ≤ b ∧ b < c ∧ x = nI b ∧ gi S 92 b = 0 ∧ ∀ k, 1 ≤ k → k < c → gi S 92 k = 0 → k = b ∨ ltN D b k) → ∃ y, (∀ J : Int32 → AS → Option AS, f_Md_goes_L199 J (nI n) f x (nI c) S = J y S) ∧ ((y = -1 ∧ ∀ k, 1 ≤ k → k ≤ n → ¬ gi S 92 k = 0) ∨ ∃ b, 1 ≤ b ∧ b ≤ n ∧ y = nI b ∧ gi S 92 b = 0 ∧ ∀ k, 1 ≤ k → k ≤ n → gi S 92 k = 0 → k = b ∨ ltN D b k) := by
  intro f
  induction f with
  | zero => intro c x _ _ h; omega
  | succ f ih =>
    intro c x hc1 hc2 hf hx
    rcases Nat.lt_or_ge n c with q | q
    · refine ⟨x, fun J => ?_, ?_⟩
      · rw [f_Md_goes_L199, if_pos (nI_lt q (by omega))]
      have e : c = n + 1 := by omega
      subst e
      rcases hx with ⟨h1, h2⟩ | ⟨b, h1, h2, h3, h4, h5⟩
      · exact Or.inl ⟨h1, fun k k1 k2 => h2 k k1 (by omega)⟩
      · exact Or.inr ⟨b, h1, by omega, h3, h4, fun k k1 k2 => h5 k k1 (by omega)⟩
    · have unf : ∀ J : Int32 → AS → Option AS, f_Md_goes_L199 J (nI n) (f + 1) x (nI c) S = if gi S 92 c = 0 then (if x = -1 then f_Md_goes_L199 J (nI n) f (nI c) (nI (c + 1)) S else chk (vp_in x 161) (if gi S 75 (ix x) ≤ D 75 c then f_Md_goes_L199 J (nI n) f x (nI (c + 1)) S else f_Md_goes_L199 J (nI n) f (nI c) (nI (c + 1)) S)) else f_Md_goes_L199 J (nI n) f x (nI (c + 1)) S := fun J => by
        rw [f_Md_goes_L199, if_neg (nI_nlt q (by omega)), chk_pos (in_nI (by omega) (by decide)), ix_nI (by omega)]
        simp only [nm_eq]
        rw [nI_1, chk_pos (in_nI (by omega) (by decide)), ht c hc1 q]
      by_cases hz : gi S 92 c = 0
      · rcases hx with ⟨h1, h2⟩ | ⟨b, h1, h2, h3, h4, h5⟩
        · obtain ⟨y, y1, y2⟩ := ih (c + 1) (nI c) (by omega) (by omega) (by omega) (Or.inr ⟨c, hc1, by omega, rfl, hz, fun k k1 k2 k3 => by
            rcases Nat.lt_or_ge k c with z | z
            · exact absurd k3 (h2 k k1 z)
            · exact Or.inl (by omega)⟩)
          exact ⟨y, fun J => by rw [unf, if_pos hz, if_pos h1]; exact y1 J, y2⟩
        · have hbn : ¬ x = -1 := by rw [h3]; exact nI_ne_m1 (by omega)
          by_cases hle : D 75 b ≤ D 75 c
          · obtain ⟨y, y1, y2⟩ := ih (c + 1) (nI b) (by omega) (by omega) (by omega) (Or.inr ⟨b, h1, by omega, rfl, h4, fun k k1 k2 k3 => by
              rcases Nat.lt_or_ge k c with z | z
              · exact h5 k k1 z k3
              · have e : k = c := by omega
                subst e
                right
                rw [ltN_iff]
                rw [Int32.le_iff_toInt_le] at hle
                omega⟩)
            exact ⟨y, fun J => by rw [unf, if_pos hz, if_neg hbn, h3, chk_pos (in_nI (by omega) (by decide)), ix_nI (by omega), ht b h1 (by omega), if_pos hle]; exact y1 J, y2⟩
          · obtain ⟨y, y1, y2⟩ := ih (c + 1) (nI c) (by omega) (by omega) (by omega) (Or.inr ⟨c, hc1, by omega, rfl, hz, fun k k1 k2 k3 => by
              rcases Nat.lt_or_ge k c with z | z
              · right
                have h6 := h5 k k1 z k3
                rw [ltN_iff] at h6 ⊢
                rw [Int32.le_iff_toInt_le] at hle
                rcases h6 with e | h6
                · subst e; omega
                · omega
              · exact Or.inl (by omega)⟩)
            exact ⟨y, fun J => by rw [unf, if_pos hz, if_neg hbn, h3, chk_pos (in_nI (by omega) (by decide)), ix_nI (by omega), ht b h1 (by omega), if_neg hle]; exact y1 J, y2⟩
      · obtain ⟨y, y1, y2⟩ := ih (c + 1) x (by omega) (by omega) (by omega) (by
          rcases hx with ⟨h1, h2⟩ | ⟨b, h1, h2, h3, h4, h5⟩
          · refine Or.inl ⟨h1, fun k k1 k2 => ?_⟩
            rcases Nat.lt_or_ge k c with z | z
            · exact h2 k k1 z
            · have e : k = c := by omega
              subst e; exact hz
          · refine Or.inr ⟨b, h1, by omega, h3, h4, fun k k1 k2 k3 => ?_⟩
            rcases Nat.lt_or_ge k c with z | z
            · exact h5 k k1 z k3
            · have e : k = c := by omega
              subst e; exact absurd k3 hz)
        exact ⟨y, fun J => by rw [unf, if_neg hz]; exact y1 J, y2⟩
def DN (D : DT) (n : Nat) (u : Int32) (T : AS) (l : Nat → Nat) (i : Nat) : Prop := ∀ k, 1 ≤ k → k ≤ n → (gi T 92 k = 0 ↔ (okN D n u k ∧ ∀ j, j < i → ¬ l j = k))
def pMG (c k : Nat) : Prop := 85 ≤ c ∧ c ≤ 92
theorem pMC_G {S T : AS} (h : fr pMC S T) : fr pMG S T := h.mono (fun c k h => by unfold pMC at h; unfold pMG; omega)
theorem MSt.frMG {S S' : AS} {D : DT} {W kn : Nat → Prop} {P K : Nat} (h : MSt S D W kn P K) (hf : fr pMG S S') : MSt S' D W kn P K := h.frG (fun c k hc => hf.2.1 c k (by unfold pMG; omega))
theorem gs_loop {S : AS} {D : DT} {W kn : Nat → Prop} {P K n m : Nat} {u : Int32} {l : Nat → Nat} (hd : DOK D W kn) (hN : NOK D W kn P n) (hs : MSt S D W kn P K) (hm : NMt S D kn n) (hq : SQ D n u m l) : ∀ (f i : Nat) (x : Int32) (T : AS), i ≤ m → m - i + 1 < f → 0 ≤ x → fr pMG S T → RM T D P K (mrun D l i) → DN D n u T l i → ∃ T', (∀ J : AS → Option AS, f_Md_goes_L190 J (nI n) f x T = J T') ∧ fr pMG S T' ∧ RM T' D P K (mrun D l m) := by
  intro f
  induction f with
  | zero => intro i x T _ h; omega
  | succ f ih =>
    intro i x T hi hf hx hfr hr hD
    have hn := hN.1
    have ht : ∀ k, 1 ≤ k → k ≤ n → gi T 74 k = D 74 k ∧ gi T 75 k = D 75 k ∧ gi T 76 k = D 76 k ∧ gi T 77 k = D 77 k := fun k k1 k2 => by
      rw [hfr.2.1 74 k (by unfold pMG; omega), hfr.2.1 75 k (by unfold pMG; omega), hfr.2.1 76 k (by unfold pMG; omega), hfr.2.1 77 k (by unfold pMG; omega)]
      exact hm.1 k k1 k2
    obtain ⟨y, y1, y2⟩ := gs_pick hn (fun k k1 k2 => (ht k k1 k2).2.1) FU 1 (-1) (Nat.le_refl _) (by omega) (by rw [FU_succ]; omega) (Or.inl ⟨rfl, fun k k1 k2 => by omega⟩)
    have y1' : ∀ J : Int32 → AS → Option AS, f_Md_goes_L199 J (nI n) FU (-1) 1 T = J y T := y1
    have hxn : ¬ x < 0 := Int32.not_lt.mpr hx
    rcases y2 with ⟨h1, h2⟩ | ⟨b, b1, b2, b3, b4, b5⟩
    · have him : i = m := by
        rcases Nat.lt_or_ge i m with q | q
        · have ok := hq.1 i q
          exact absurd ((hD (l i) ok.1 ok.2.1).mpr ⟨ok, fun j hj e => by
            have h := hq.2.1 j i hj q
            rw [e, ltN_iff] at h
            omega⟩) (h2 (l i) ok.1 ok.2.1)
        · omega
      subst him
      obtain ⟨g, rfl⟩ : ∃ g, f = g + 1 := ⟨f - 1, by omega⟩
      refine ⟨T, fun J => ?_, hfr, hr⟩
      rw [f_Md_goes_L190, if_neg hxn]
      simp only [nm_eq]
      rw [y1', h1, if_neg (by decide), f_Md_goes_L190, if_pos (by decide)]
    · obtain ⟨okb, nd⟩ := (hD b b1 b2).mp b4
      obtain ⟨j, j1, j2⟩ := hq.2.2 b okb
      have hij : i ≤ j := by
        rcases Nat.lt_or_ge j i with q | q
        · exact absurd j2 (nd j q)
        · exact q
      have him : i < m := by omega
      have oki := hq.1 i him
      have hlb : l i = b := by
        have h92 := (hD (l i) oki.1 oki.2.1).mpr ⟨oki, fun j hj e => by
            have h := hq.2.1 j i hj him
            rw [e, ltN_iff] at h
            omega⟩
        rcases b5 (l i) oki.1 oki.2.1 h92 with e | e
        · exact e
        · rcases Nat.lt_or_ge i j with z | z
          · have h := hq.2.1 i j z j1
            rw [j2, ltN_iff] at h
            rw [ltN_iff] at e
            omega
          · rw [show i = j by omega]; exact j2
      have hU : fr pMG S (si T 92 b 1) := fr.si hfr (by unfold pMG; omega)
      have hrU : RM (si T 92 b 1) D P K (mrun D l i) := by
        obtain ⟨r1, r2, r3⟩ := hr
        unfold RM
        simp only [gi_si, gl_si]
        refine ⟨fun p hp => ?_, fun w hw => ?_, fun k hk => ?_⟩
        · rw [if_neg (by omega), if_neg (by omega)]; exact r1 p hp
        · rw [if_neg (by omega)]; exact r2 w hw
        · rw [if_neg (by omega), if_neg (by omega), if_neg (by omega)]; exact r3 k hk
      have hxr : XOK D W kn (mrun D l i) := XOK.run hd hN (m := i) (fun j hj => hq.1 j (by omega))
      obtain ⟨V, v1, v2, v3⟩ := md_step (n := n) (u := u) hd hN (hs.frMG hU) hxr hrU okb
      obtain ⟨t1, t2, t3, t4⟩ := ht b b1 b2
      have u1 : gi (si T 92 b 1) 74 b = D 74 b := by rw [gi_ne (by decide)]; exact t1
      have u2 : gi (si T 92 b 1) 75 b = D 75 b := by rw [gi_ne (by decide)]; exact t2
      have u3 : gi (si T 92 b 1) 76 b = D 76 b := by rw [gi_ne (by decide)]; exact t3
      have u4 : gi (si T 92 b 1) 77 b = D 77 b := by rw [gi_ne (by decide)]; exact t4
      obtain ⟨T', g1, g2, g3⟩ := ih (i + 1) (nI b) V (by omega) (by omega) (nI_pos' (by omega)) (hU.tr (pMC_G v2)) (by rw [mrun, hlb]; exact v3) (fun k k1 k2 => by
        rw [v2.2.1 92 k (by unfold pMC; omega), gi_si]
        by_cases e : k = b
        · rw [if_pos ⟨rfl, e⟩]
          refine ⟨fun z => absurd z (by decide), fun z => ?_⟩
          exact absurd (hlb.trans e.symm) (z.2 i (by omega))
        · rw [if_neg (fun z => e z.2), hD k k1 k2]
          refine ⟨fun z => ⟨z.1, fun j hj => ?_⟩, fun z => ⟨z.1, fun j hj => z.2 j (by omega)⟩⟩
          rcases Nat.lt_or_ge j i with q | q
          · exact z.2 j q
          · rw [show j = i by omega, hlb]; exact fun z => e z.symm)
      refine ⟨T', fun J => ?_, g2, g3⟩
      rw [f_Md_goes_L190, if_neg hxn]
      simp only [nm_eq]
      rw [y1', b3, if_pos (nI_pos' (by omega)), chk_pos (in_nI (by omega) (by decide)), chk_pos (in_nI (by omega) (by decide)), chk_pos (in_nI (by omega) (by decide)), chk_pos (in_nI (by omega) (by decide)), chk_pos (in_nI (by omega) (by decide)), ix_nI (by omega), show vp_nar .boolean 1 = 1 from rfl, u1, u2, u3, u4]
      by_cases h0 : D 74 b = 0
      · rw [if_pos h0] at v1 ⊢
        rw [v1, bV_eq]; exact g1 J
      rw [if_neg h0] at v1 ⊢
      by_cases h1 : D 74 b = 1
      · rw [if_pos h1] at v1 ⊢
        rw [v1, bV_eq]; exact g1 J
      rw [if_neg h1] at v1 ⊢
      by_cases h2 : D 74 b = 2
      · rw [if_pos h2] at v1 ⊢
        rw [v1, bV_eq]; exact g1 J
      rw [if_neg h2] at v1 ⊢
      rw [v1, bV_eq]; exact g1 J
/-! its beginning -/
theorem gs_1 {n u : Int32} {Q : Nat} (hQ : Q ≤ 16) : ∀ (f i : Nat) (S : AS), i ≤ Q → Q - i < f → gi S 70 4 = nI Q → ∃ T, (∀ J : AS → Option AS, f_Md_goes_L2 J n u f (nI i) S = J T) ∧ fr (fun c k => (c = 85 ∨ c = 86) ∧ i ≤ k) S T ∧ ∀ p, i ≤ p → p < Q → gi T 85 p = gi S 73 (3 * p + 2) ∧ gi T 86 p = 0 := by
  intro f
  induction f with
  | zero => intro i S _ h; omega
  | succ f ih =>
    intro i S hi hf h4
    rcases Nat.lt_or_ge i Q with q | q
    · obtain ⟨T, t1, t2, t3⟩ := ih (i + 1) (si (si S 85 i (gi S 73 (3 * i + 2))) 86 i 0) (by omega) (by omega) (by rw [gi_ne (by decide), gi_ne (by decide)]; exact h4)
      refine ⟨T, fun J => ?_, (fr.si (fr.si (fr_rf _ S) ⟨Or.inl rfl, Nat.le_refl _⟩) ⟨Or.inr rfl, Nat.le_refl _⟩).tr (t2.mono (fun c k h => ⟨h.1, by omega⟩)), fun p p1 p2 => ?_⟩
      · rw [f_Md_goes_L2, h4, if_neg (nI_ge q (by omega)), m32]
        simp only [nm_eq]
        rw [chk_pos (in_nI (by omega) (by decide)), chk_pos (in_nI (by omega) (by decide)), chk_pos (in_nI (by omega) (by decide)), ix_nI (by omega), ix_nI (by omega), nI_1]; exact t1 J
      · rcases Nat.lt_or_ge i p with z | z
        · have h := t3 p (by omega) p2
          rw [gi_ne (by decide), gi_ne (by decide)] at h
          exact h
        · have e : p = i := by omega
          subst e
          rw [t2.2.1 85 p (by omega), t2.2.1 86 p (by omega)]
          simp [gi_si]
    · refine ⟨S, fun J => ?_, fr_rf _ _, fun p p1 p2 => by omega⟩
      rw [f_Md_goes_L2, h4, if_pos (nI_le q (by omega))]
theorem gs_2 {n u : Int32} {P : Nat} (hP : P ≤ 24) : ∀ (f i : Nat) (S : AS), i ≤ P → P - i < f → gi S 70 2 = nI P → ∃ T, (∀ J : AS → Option AS, f_Md_goes_L41 J n u f (nI i) S = J T) ∧ fr (fun c k => (c = 87 ∨ c = 91) ∧ i ≤ k) S T ∧ ∀ w, i ≤ w → w < P → gi T 87 w = 0 ∧ gl T 91 w = 0 := by
  intro f
  induction f with
  | zero => intro i S _ h; omega
  | succ f ih =>
    intro i S hi hf h4
    rcases Nat.lt_or_ge i P with q | q
    · obtain ⟨T, t1, t2, t3⟩ := ih (i + 1) (sl (si S 87 i 0) 91 i 0) (by omega) (by omega) (by rw [gi_sl, gi_ne (by decide)]; exact h4)
      refine ⟨T, fun J => ?_, (fr.sl (fr.si (fr_rf _ S) ⟨Or.inl rfl, Nat.le_refl _⟩) ⟨Or.inr rfl, Nat.le_refl _⟩).tr (t2.mono (fun c k h => ⟨h.1, by omega⟩)), fun p p1 p2 => ?_⟩
      · rw [f_Md_goes_L41, h4, if_neg (nI_ge q (by omega))]
        simp only [nm_eq]
        rw [chk_pos (in_nI (by omega) (by decide)), chk_pos (in_nI (by omega) (by decide)), ix_nI (by omega), nI_1, show vp_nar .boolean 0 = 0 from rfl]; exact t1 J
      · rcases Nat.lt_or_ge i p with z | z
        · exact t3 p (by omega) p2
        · have e : p = i := by omega
          subst e
          rw [t2.2.1 87 p (by omega), t2.2.2.1 91 p (by omega)]
          simp [gi_si, gi_sl, gl_sl]
    · refine ⟨S, fun J => ?_, fr_rf _ _, fun p p1 p2 => by omega⟩
      rw [f_Md_goes_L41, h4, if_pos (nI_le q (by omega))]
theorem gs_3 {n u : Int32} {K : Nat} (hK : K ≤ 48) : ∀ (f i : Nat) (S : AS), i ≤ K → K - i < f → gi S 70 11 = nI K → ∃ T, (∀ J : AS → Option AS, f_Md_goes_L71 J n u f (nI i) S = J T) ∧ fr (fun c k => (c = 88 ∨ c = 89 ∨ c = 90) ∧ i ≤ k) S T ∧ ∀ w, i ≤ w → w < K → gi T 88 w = 0 ∧ gi T 89 w = -1 ∧ gi T 90 w = -1 := by
  intro f
  induction f with
  | zero => intro i S _ h; omega
  | succ f ih =>
    intro i S hi hf h4
    rcases Nat.lt_or_ge i K with q | q
    · obtain ⟨T, t1, t2, t3⟩ := ih (i + 1) (si (si (si S 88 i 0) 89 i (-1)) 90 i (-1)) (by omega) (by omega) (by rw [gi_ne (by decide), gi_ne (by decide), gi_ne (by decide)]; exact h4)
      refine ⟨T, fun J => ?_, (fr.si (fr.si (fr.si (fr_rf _ S) ⟨Or.inl rfl, Nat.le_refl _⟩) ⟨Or.inr (Or.inl rfl), Nat.le_refl _⟩) ⟨Or.inr (Or.inr rfl), Nat.le_refl _⟩).tr (t2.mono (fun c k h => ⟨h.1, by omega⟩)), fun p p1 p2 => ?_⟩
      · rw [f_Md_goes_L71, h4, if_neg (nI_ge q (by omega))]
        simp only [nm_eq]
        rw [chk_pos (in_nI (by omega) (by decide)), chk_pos (in_nI (by omega) (by decide)), chk_pos (in_nI (by omega) (by decide)), ix_nI (by omega), nI_1, show vp_nar .boolean 0 = 0 from rfl]; exact t1 J
      · rcases Nat.lt_or_ge i p with z | z
        · exact t3 p (by omega) p2
        · have e : p = i := by omega
          subst e
          rw [t2.2.1 88 p (by omega), t2.2.1 89 p (by omega), t2.2.1 90 p (by omega)]
          simp [gi_si]
    · refine ⟨S, fun J => ?_, fr_rf _ _, fun p p1 p2 => by omega⟩
      rw [f_Md_goes_L71, h4, if_pos (nI_le q (by omega))]
theorem gs_4 {D : DT} {W kn : Nat → Prop} {P n : Nat} {u : Int32} (hd : DOK D W kn) (hN : NOK D W kn P n) : ∀ (f i : Nat) (S : AS), 1 ≤ i → i ≤ n + 1 → n + 1 - i < f → NMt S D kn n → ∃ T, (∀ J : AS → Option AS, f_Md_goes_L108 J (nI n) u f (nI i) S = J T) ∧ fr (fun c k => c = 92 ∧ i ≤ k) S T ∧ ∀ k, i ≤ k → k ≤ n → (gi T 92 k = 0 ↔ okN D n u k) := by
  have hn := hN.1
  intro f
  induction f with
  | zero => intro i S _ _ h; omega
  | succ f ih =>
    intro i S hi1 hi hf hm
    rcases Nat.lt_or_ge n i with q | q
    · refine ⟨S, fun J => ?_, fr_rf _ _, fun p p1 p2 => by omega⟩
      rw [f_Md_goes_L108, if_pos (nI_lt q (by omega))]
    · obtain ⟨t1, t2, t3, t4⟩ := hm.1 i hi1 q
      have goon : ∀ v : Int32, (v = 0 ∨ v = 1) → (v = 0 ↔ okN D n u i) → ∃ T, (∀ J : AS → Option AS, f_Md_goes_L108 J (nI n) u f (nI i + 1) (si S 92 i (vp_nar .boolean v)) = J T) ∧ fr (fun c k => c = 92 ∧ i ≤ k) S T ∧ ∀ k, i ≤ k → k ≤ n → (gi T 92 k = 0 ↔ okN D n u k) := by
        intro v hv hv2
        have hvn : vp_nar .boolean v = v := by
          rcases hv with h | h <;> rw [h] <;> rfl
        rw [hvn]
        obtain ⟨T, g1, g2, g3⟩ := ih (i + 1) (si S 92 i v) (by omega) (by omega) (by omega) ⟨fun k k1 k2 => by
          rw [gi_ne (by decide), gi_ne (by decide), gi_ne (by decide), gi_ne (by decide)]; exact hm.1 k k1 k2, fun j hj => by
          rw [gi_ne (by decide)]; exact hm.2 j hj⟩
        refine ⟨T, fun J => by rw [nI_1]; exact g1 J, (fr.si (fr_rf _ S) ⟨rfl, Nat.le_refl _⟩).tr (g2.mono (fun c k h => ⟨h.1, by omega⟩)), fun k k1 k2 => ?_⟩
        rcases Nat.lt_or_ge i k with z | z
        · exact g3 k (by omega) k2
        · have e : k = i := by omega
          subst e
          rw [g2.2.1 92 k (by omega), gi_si, if_pos ⟨rfl, rfl⟩]; exact hv2
      have hin : vp_in (nI i) 161 := in_nI (by omega) (by decide)
      by_cases h4 : D 74 i = 4
      · obtain ⟨T, g1, g2⟩ := goon 1 (Or.inr rfl) ⟨fun z => absurd z (by decide), fun z => absurd h4 z.2.2.1⟩
        refine ⟨T, fun J => ?_, g2⟩
        rw [f_Md_goes_L108, if_neg (nI_nlt q (by omega)), chk_pos hin, ix_nI (by omega), t1]
        simp only [nm_eq]
        rw [if_pos h4, chk_pos hin, ix_nI (by omega)]; exact g1 J
      by_cases hu : u < D 75 i
      · obtain ⟨T, g1, g2⟩ := goon 1 (Or.inr rfl) ⟨fun z => absurd z (by decide), fun z => absurd z.2.2.2.1 (Int32.not_le.mpr hu)⟩
        refine ⟨T, fun J => ?_, g2⟩
        rw [f_Md_goes_L108, if_neg (nI_nlt q (by omega)), chk_pos hin, ix_nI (by omega), t1]
        simp only [nm_eq]
        rw [if_neg h4, chk_pos hin, t2, if_pos hu, chk_pos hin, ix_nI (by omega)]; exact g1 J
      have hu' : D 75 i ≤ u := Int32.not_lt.mp hu
      by_cases h0 : D 74 i = 0
      · have hj : ∃ j, kn j ∧ D 76 i = nI j := by
          rcases hN.2 i hi1 q with z | ⟨-, z | z | z | z⟩
          · exact absurd z h4
          · exact z.2
          · rw [h0] at z; exact absurd z.1 (by decide)
          · rw [h0] at z; exact absurd z.1 (by decide)
          · rw [h0] at z; exact absurd z.1 (by decide)
        obtain ⟨j, hj, ej⟩ := hj
        have hj48 := (hd.2.2.2.2.1 j hj).1
        have hv := hm.2 j hj
        have hinj : vp_in (nI j) 48 := in_nI hj48 (by decide)
        have eix : ix (D 76 i) = j := by rw [ej]; exact ix_nI (by omega)
        by_cases ha : gi S 79 j ≤ 0
        · obtain ⟨T, g1, g2⟩ := goon 0 (Or.inl rfl) ⟨fun _ => ⟨hi1, q, h4, hu', fun z => (hv.mpr (by rw [← eix]; exact z.2)).1 ha⟩, fun _ => rfl⟩
          refine ⟨T, fun J => ?_, g2⟩
          rw [f_Md_goes_L108, if_neg (nI_nlt q (by omega)), chk_pos hin, ix_nI (by omega), t1]
          simp only [nm_eq]
          rw [if_neg h4, chk_pos hin, t2, if_neg hu, chk_pos hin, if_pos h0, chk_pos hin, t3, ej, chk_pos hinj, ix_nI (show j < 2147483648 by omega), if_pos ha, chk_pos hin, ix_nI (by omega)]; exact g1 J
        by_cases hb : nI n < gi S 79 j
        · obtain ⟨T, g1, g2⟩ := goon 0 (Or.inl rfl) ⟨fun _ => ⟨hi1, q, h4, hu', fun z => (hv.mpr (by rw [← eix]; exact z.2)).2 hb⟩, fun _ => rfl⟩
          refine ⟨T, fun J => ?_, g2⟩
          rw [f_Md_goes_L108, if_neg (nI_nlt q (by omega)), chk_pos hin, ix_nI (by omega), t1]
          simp only [nm_eq]
          rw [if_neg h4, chk_pos hin, t2, if_neg hu, chk_pos hin, if_pos h0, chk_pos hin, t3, ej, chk_pos hinj, ix_nI (show j < 2147483648 by omega), if_neg ha, chk_pos hin, chk_pos hinj, if_pos hb, chk_pos hin, ix_nI (by omega)]; exact g1 J
        · obtain ⟨T, g1, g2⟩ := goon 1 (Or.inr rfl) ⟨fun z => absurd z (by decide), fun z => absurd ⟨h0, by rw [eix]; exact hv.mp ⟨ha, hb⟩⟩ z.2.2.2.2⟩
          refine ⟨T, fun J => ?_, g2⟩
          rw [f_Md_goes_L108, if_neg (nI_nlt q (by omega)), chk_pos hin, ix_nI (by omega), t1]
          simp only [nm_eq]
          rw [if_neg h4, chk_pos hin, t2, if_neg hu, chk_pos hin, if_pos h0, chk_pos hin, t3, ej, chk_pos hinj, ix_nI (show j < 2147483648 by omega), if_neg ha, chk_pos hin, chk_pos hinj, if_neg hb, chk_pos hin, ix_nI (by omega)]; exact g1 J
      · obtain ⟨T, g1, g2⟩ := goon 0 (Or.inl rfl) ⟨fun _ => ⟨hi1, q, h4, hu', fun z => h0 z.1⟩, fun _ => rfl⟩
        refine ⟨T, fun J => ?_, g2⟩
        rw [f_Md_goes_L108, if_neg (nI_nlt q (by omega)), chk_pos hin, ix_nI (by omega), t1]
        simp only [nm_eq]
        rw [if_neg h4, chk_pos hin, t2, if_neg hu, chk_pos hin, if_neg h0, chk_pos hin, ix_nI (by omega)]; exact g1 J
theorem gs_begin {S : AS} {D : DT} {W kn : Nat → Prop} {P K n m : Nat} {u : Int32} {l : Nat → Nat} (hd : DOK D W kn) (hN : NOK D W kn P n) (hs : MSt S D W kn P K) (hm : NMt S D kn n) : ∃ T4, (∀ J : AS → Option AS, (f_Md_goes_L2 (fun S1 => f_Md_goes_L41 (fun S2 => f_Md_goes_L71 (fun S3 => f_Md_goes_L108 J (nI n) u FU 1 S3) (nI n) u FU 0 S2) (nI n) u FU 0 S1) (nI n) u FU 0 S) = J T4) ∧ fr pMG S T4 ∧ RM T4 D P K (mrun D l 0) ∧ DN D n u T4 l 0 := by
  have hn := hN.1
  have hQ := hd.1
  obtain ⟨s1, s2, s3, s4, s5, s6, s7, s8, s9, s10⟩ := id hs
  obtain ⟨T1, a1, a2, a3⟩ := gs_1 (n := nI n) (u := u) hQ FU 0 S (Nat.zero_le _) (by rw [FU_succ]; omega) (by rw [s5]; exact hd.2.1)
  have f1 : fr pMG S T1 := a2.mono (fun c k h => by unfold pMG; omega)
  obtain ⟨T2, b1, b2, b3⟩ := gs_2 (n := nI n) (u := u) s1 FU 0 T1 (Nat.zero_le _) (by rw [FU_succ]; omega) (by rw [f1.2.1 70 2 (by unfold pMG; omega)]; exact s3)
  have f2 : fr pMG S T2 := f1.tr (b2.mono (fun c k h => by unfold pMG; omega))
  obtain ⟨T3, c1, c2, c3⟩ := gs_3 (n := nI n) (u := u) s2 FU 0 T2 (Nat.zero_le _) (by rw [FU_succ]; omega) (by rw [f2.2.1 70 11 (by unfold pMG; omega)]; exact s4)
  have f3 : fr pMG S T3 := f2.tr (c2.mono (fun c k h => by unfold pMG; omega))
  have hm3 : NMt T3 D kn n := ⟨fun k k1 k2 => by
    rw [f3.2.1 74 k (by unfold pMG; omega), f3.2.1 75 k (by unfold pMG; omega), f3.2.1 76 k (by unfold pMG; omega), f3.2.1 77 k (by unfold pMG; omega)]; exact hm.1 k k1 k2, fun j hj => by
    rw [f3.2.1 79 j (by unfold pMG; omega)]; exact hm.2 j hj⟩
  obtain ⟨T4, d1, d2, d3⟩ := gs_4 (u := u) hd hN FU 1 T3 (Nat.le_refl _) (by omega) (by rw [FU_succ]; omega) hm3
  have f4 : fr pMG S T4 := f3.tr (d2.mono (fun c k h => by unfold pMG; omega))
  have hr : RM T4 D P K (mrun D l 0) := by
    refine ⟨fun p hp => ?_, fun w hw => ?_, fun k hk => ?_⟩
    · have e1 : gi T4 85 p = gi T1 85 p := by rw [d2.2.1 85 p (by omega), c2.2.1 85 p (by omega), b2.2.1 85 p (by omega)]
      have e2 : gi T4 86 p = gi T1 86 p := by rw [d2.2.1 86 p (by omega), c2.2.1 86 p (by omega), b2.2.1 86 p (by omega)]
      rw [e1, e2, (a3 p (by omega) hp).1, (a3 p (by omega) hp).2, s7]
      have g : gi (mini D) 85 p = D 73 (3 * p + 2) := by
        show (if (85 : Nat) = 85 then (if p < mQ D then D 73 (3 * p + 2) else -1) else if (85 : Nat) = 89 ∨ (85 : Nat) = 90 then -1 else 0) = D 73 (3 * p + 2)
        rw [if_pos rfl, if_pos hp]
      exact ⟨g.symm, rfl⟩
    · have e1 : gi T4 87 w = gi T2 87 w := by rw [d2.2.1 87 w (by omega), c2.2.1 87 w (by omega)]
      have e2 : gl T4 91 w = gl T2 91 w := by rw [d2.2.2.1 91 w (by omega), c2.2.2.1 91 w (by omega)]
      rw [e1, e2, (b3 w (by omega) hw).1, (b3 w (by omega) hw).2]
      exact ⟨rfl, rfl⟩
    · have e1 : gi T4 88 k = gi T3 88 k := d2.2.1 88 k (by omega)
      have e2 : gi T4 89 k = gi T3 89 k := d2.2.1 89 k (by omega)
      have e3 : gi T4 90 k = gi T3 90 k := d2.2.1 90 k (by omega)
      rw [e1, e2, e3, (c3 k (by omega) hk).1, (c3 k (by omega) hk).2.1, (c3 k (by omega) hk).2.2]
      exact ⟨rfl, rfl, rfl⟩
  refine ⟨T4, fun J => ?_, f4, hr, fun k k1 k2 => ?_⟩
  · rw [nI_0] at a1 b1 c1
    rw [show nI 1 = (1 : Int32) from rfl] at d1
    rw [a1, b1, c1, d1]
  · rw [d3 k k1 k2]
    exact ⟨fun z => ⟨z, fun j hj => by omega⟩, fun z => z.1⟩
theorem md_goes {S : AS} {D : DT} {W kn : Nat → Prop} {P K n m : Nat} {u : Int32} {l : Nat → Nat} (hd : DOK D W kn) (hN : NOK D W kn P n) (hs : MSt S D W kn P K) (hm : NMt S D kn n) (hq : SQ D n u m l) (hmf : m ≤ 200) : ∃ S', f_Md_goes (nI n) u S = some S' ∧ fr pMG S S' ∧ RM S' D P K (mrun D l m) := by
  obtain ⟨T4, b1, f4, hr, hD⟩ := gs_begin (m := 0) (l := l) (u := u) hd hN hs hm
  have hfu : m - 0 + 1 < FU := by rw [FU_succ]; omega
  have hx0 : (0 : Int32) ≤ 0 := Int32.le_refl 0
  have hm4 : NMt T4 D kn n := ⟨fun k k1 k2 => by
    rw [f4.2.1 74 k (by unfold pMG; omega), f4.2.1 75 k (by unfold pMG; omega), f4.2.1 76 k (by unfold pMG; omega), f4.2.1 77 k (by unfold pMG; omega)]; exact hm.1 k k1 k2, fun j hj => by
    rw [f4.2.1 79 j (by unfold pMG; omega)]; exact hm.2 j hj⟩
  obtain ⟨T5, e1, e2, e3⟩ := gs_loop hd hN (hs.frMG f4) hm4 hq FU 0 0 T4 (Nat.zero_le _) hfu hx0 (fr_rf _ _) hr hD
  refine ⟨T5, ?_, f4.tr e2, e3⟩
  unfold f_Md_goes
  simp only [nm_k]
  rw [b1, e1]
