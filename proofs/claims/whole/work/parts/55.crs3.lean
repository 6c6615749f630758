/-! the state's steps keep to the data -/
def pMC (c k : Nat) : Prop := 85 ≤ c ∧ c ≤ 91
theorem RM.si {S : AS} {D : DT} {P K : Nat} {X : AS} (h : RM S D P K X) (c k : Nat) (v : Int32) : RM (si S c k v) D P K (si X c k v) := by
  obtain ⟨h1, h2, h3⟩ := h
  unfold RM
  simp only [gi_si, gl_si]
  refine ⟨fun p hp => ⟨by rw [(h1 p hp).1], by rw [(h1 p hp).2]⟩, fun w hw => ⟨by rw [(h2 w hw).1], (h2 w hw).2⟩, fun k hk => ⟨by rw [(h3 k hk).1], by rw [(h3 k hk).2.1], by rw [(h3 k hk).2.2]⟩⟩
theorem RM.sl {S : AS} {D : DT} {P K : Nat} {X : AS} (h : RM S D P K X) (c k : Nat) (v : Int64) : RM (sl S c k v) D P K (sl X c k v) := by
  obtain ⟨h1, h2, h3⟩ := h
  unfold RM
  simp only [gi_sl, gl_sl]
  refine ⟨h1, fun w hw => ⟨(h2 w hw).1, by rw [(h2 w hw).2]⟩, h3⟩
theorem MSt.frG {S S' : AS} {D : DT} {W kn : Nat → Prop} {P K : Nat} (h : MSt S D W kn P K) (hf : ∀ c k, c = 70 ∨ c = 72 ∨ c = 73 ∨ c = 78 ∨ (80 ≤ c ∧ c ≤ 83) → gi S' c k = gi S c k) : MSt S' D W kn P K := by
  obtain ⟨s1, s2, s3, s4, s5, s6, s7, s8, s9, s10⟩ := h
  refine ⟨s1, s2, by rw [hf 70 2 (by omega)]; exact s3, by rw [hf 70 11 (by omega)]; exact s4, by rw [hf 70 4 (by omega)]; exact s5, by rw [hf 70 15 (by omega)]; exact s6, fun k => by rw [hf 73 k (by omega)]; exact s7 k, fun c k h1 h2 => by rw [hf c k (by omega)]; exact s8 c k h1 h2, fun w hw => ⟨(s9 w hw).1, fun i hi => by rw [hf 72 _ (by omega)]; exact (s9 w hw).2 i hi⟩, fun k hk => ⟨(s10 k hk).1, fun i hi => by rw [hf 78 _ (by omega)]; exact (s10 k hk).2 i hi⟩⟩
theorem MSt.frM {S S' : AS} {D : DT} {W kn : Nat → Prop} {P K : Nat} (h : MSt S D W kn P K) (hf : fr pMC S S') : MSt S' D W kn P K := h.frG (fun c k hc => hf.2.1 c k (by unfold pMC; omega))
theorem XOK.take {D : DT} {W kn : Nat → Prop} {X : AS} (h : XOK D W kn X) (p : Nat) {w : Int32} (hw : w = -1 ∨ ∃ j, W j ∧ w = nI j) (t : Int32) : XOK D W kn (mtake X p w t) := by
  obtain ⟨h1, h2, h3⟩ := h
  unfold XOK mtake
  simp only [gi_si]
  refine ⟨fun q hq => ?_, fun k => ?_, fun w => ?_⟩
  · rw [if_neg (by omega)]
    by_cases e : q = p
    · rw [if_pos ⟨trivial, e⟩]; exact hw
    · rw [if_neg (fun z => e z.2)]; exact h1 q hq
  · rw [if_neg (by omega), if_neg (by omega)]; exact h2 k
  · rw [if_neg (by omega), if_neg (by omega)]; exact h3 w
theorem XOK.leave {D : DT} {W kn : Nat → Prop} {X : AS} (h : XOK D W kn X) (p : Nat) (t : Int32) : XOK D W kn (mleave D X p t) := by
  obtain ⟨h1, h2, h3⟩ := id h
  unfold mleave
  split
  · exact h
  unfold XOK
  simp only [gi_si, gi_sl]
  refine ⟨fun q hq => ?_, fun k => ?_, fun w => ?_⟩
  · by_cases e : q = p
    · rw [if_pos ⟨trivial, e⟩]; exact Or.inl rfl
    · rw [if_neg (fun z => e z.2)]; exact h1 q hq
  · rw [if_neg (by omega)]; exact h2 k
  · rw [if_neg (by omega)]; exact h3 w
theorem XOK.live {D : DT} {W kn : Nat → Prop} {X : AS} (h : XOK D W kn X) (k : Nat) {v : Int32} (hv : v = 0 ∨ (v = 1 ∧ kn k)) : XOK D W kn (si X 88 k v) := by
  obtain ⟨h1, h2, h3⟩ := h
  unfold XOK
  simp only [gi_si]
  refine ⟨fun q hq => ?_, fun j => ?_, fun w => ?_⟩
  · rw [if_neg (by omega)]; exact h1 q hq
  · by_cases e : j = k
    · rw [if_pos ⟨trivial, e⟩, e]; exact hv
    · rw [if_neg (fun z => e z.2)]; exact h2 j
  · rw [if_neg (by omega)]; exact h3 w
theorem XOK.other {D : DT} {W kn : Nat → Prop} {X : AS} (h : XOK D W kn X) {c : Nat} (hc : c = 89 ∨ c = 90) (k : Nat) (v : Int32) : XOK D W kn (si X c k v) := by
  obtain ⟨h1, h2, h3⟩ := h
  unfold XOK
  simp only [gi_si]
  refine ⟨fun q hq => ?_, fun j => ?_, fun w => ?_⟩
  · rw [if_neg (by omega)]; exact h1 q hq
  · rw [if_neg (by omega)]; exact h2 j
  · rw [if_neg (by omega)]; exact h3 w
theorem XOK.dead {D : DT} {W kn : Nat → Prop} {X : AS} (h : XOK D W kn X) (w : Nat) : XOK D W kn (si X 87 w 1) := by
  obtain ⟨h1, h2, h3⟩ := h
  unfold XOK
  simp only [gi_si]
  refine ⟨fun q hq => ?_, fun j => ?_, fun w' => ?_⟩
  · rw [if_neg (by omega)]; exact h1 q hq
  · rw [if_neg (by omega)]; exact h2 j
  · split
    · exact Or.inr rfl
    · exact h3 w'
theorem XOK.use {D : DT} {W kn : Nat → Prop} {X : AS} (hd : DOK D W kn) (h : XOK D W kn X) {k : Nat} (hk : kn k) (p : Nat) (t : Int32) : XOK D W kn (muse D X k p t) := by
  unfold muse
  exact ((((h.live k (Or.inl rfl)).other (Or.inl rfl) k _).other (Or.inr rfl) k _).take p (Or.inr (hd.2.2.2.2.1 k hk).2.1) t)
theorem mmay_live {D : DT} {X : AS} {k p : Nat} {t : Int32} (h : ¬ mmay D X k p t = 0) : ¬ gi X 88 k = 0 := fun z => h (by unfold mmay; rw [if_pos z])
theorem mbest_ok (D : DT) (X : AS) (p : Nat) (t : Int32) (n : Nat) : mbest D X p t n = -1 ∨ ∃ k, k < n ∧ mbest D X p t n = nI k ∧ ¬ gi X 88 k = 0 := by
  induction n with
  | zero => exact Or.inl rfl
  | succ n ih =>
    have ih' : mbest D X p t n = -1 ∨ ∃ k, k < n + 1 ∧ mbest D X p t n = nI k ∧ ¬ gi X 88 k = 0 := by
      rcases ih with q | ⟨k, k1, k2⟩
      · exact Or.inl q
      · exact Or.inr ⟨k, by omega, k2⟩
    rw [mbest]
    by_cases hm : mmay D X n p t = 0
    · rw [if_pos hm]; exact ih'
    · rw [if_neg hm]
      have me : nI n = -1 ∨ ∃ k, k < n + 1 ∧ nI n = nI k ∧ ¬ gi X 88 k = 0 := Or.inr ⟨n, by omega, rfl, mmay_live hm⟩
      split
      · exact me
      · split
        · exact ih'
        · exact me
theorem mbest_stop {D : DT} {X : AS} {p : Nat} {t : Int32} {K n : Nat} (h : ∀ k, K ≤ k → gi X 88 k = 0) (hn : K ≤ n) : mbest D X p t n = mbest D X p t K := by
  induction hn with
  | refl => rfl
  | @step m hm ih => rw [mbest, if_pos (show mmay D X m p t = 0 by unfold mmay; rw [if_pos (h m hm)]), ih]
theorem mfre_ok (D : DT) (X : AS) (k : Nat) (t : Int32) (n : Nat) : mfre D X k t n = -1 ∨ ∃ p, p < n ∧ mfre D X k t n = nI p ∧ gi X 85 p = -1 := by
  induction n with
  | zero => exact Or.inl rfl
  | succ n ih =>
    have ih' : mfre D X k t n = -1 ∨ ∃ p, p < n + 1 ∧ mfre D X k t n = nI p ∧ gi X 85 p = -1 := by
      rcases ih with q | ⟨k, k1, k2⟩
      · exact Or.inl q
      · exact Or.inr ⟨k, by omega, k2⟩
    rw [mfre]
    by_cases hm : gi X 85 n = -1
    · rw [if_pos hm]
      have me : nI n = -1 ∨ ∃ p, p < n + 1 ∧ nI n = nI p ∧ gi X 85 p = -1 := Or.inr ⟨n, by omega, rfl, hm⟩
      split
      · exact ih'
      · split
        · exact me
        · split
          · exact ih'
          · exact me
    · rw [if_neg hm]; exact ih'
theorem XOK.best {D : DT} {W kn : Nat → Prop} {X : AS} (h : XOK D W kn X) (p : Nat) (t : Int32) (n : Nat) : mbest D X p t n = -1 ∨ ∃ k, k < n ∧ kn k ∧ mbest D X p t n = nI k := by
  rcases mbest_ok D X p t n with q | ⟨k, k1, k2, k3⟩
  · exact Or.inl q
  · rcases h.2.1 k with z | z
    · exact absurd z k3
    · exact Or.inr ⟨k, k1, z.2, k2⟩
theorem XOK.give {D : DT} {W kn : Nat → Prop} {X : AS} (hd : DOK D W kn) (h : XOK D W kn X) (p : Nat) (t : Int32) : XOK D W kn (mgive D X p t) := by
  unfold mgive
  rcases h.best p t 48 with q | ⟨k, k1, k2, k3⟩
  · rw [if_pos q]; exact h
  · rw [if_neg (by rw [k3]; exact nI_ne_m1 (by omega)), k3, ix_nI (by omega)]; exact h.use hd k2 p t
theorem XOK.come {D : DT} {W kn : Nat → Prop} {X : AS} (hd : DOK D W kn) (h : XOK D W kn X) {k : Nat} (hk : kn k) (t : Int32) : XOK D W kn (mcome D X k t) := by
  unfold mcome
  have h1 : XOK D W kn (si X 88 k 1) := h.live k (Or.inr ⟨rfl, hk⟩)
  split
  · split
    · exact h1
    · exact h1.use hd hk _ t
  · exact h
theorem XOK.kil {D : DT} {W kn : Nat → Prop} {X : AS} (h : XOK D W kn X) (w : Nat) (n : Nat) : XOK D W kn (mkil D X w n) := by
  induction n with
  | zero => exact h
  | succ n ih =>
    rw [mkil]
    refine ih.live n ?_
    rcases h.2.1 n with z | z
    · rw [if_pos z]; exact Or.inl rfl
    · rw [if_neg (by rw [z.1]; decide)]
      split
      · exact Or.inl rfl
      · exact Or.inr ⟨rfl, z.2⟩
theorem XOK.lv {D : DT} {W kn : Nat → Prop} {X : AS} (hd : DOK D W kn) (h : XOK D W kn X) (w : Nat) (t : Int32) (n : Nat) : XOK D W kn (mlv D X w t n) := by
  induction n with
  | zero => exact h
  | succ n ih =>
    rw [mlv]
    split
    · exact (ih.leave n t).give hd n t
    · exact ih
theorem XOK.die {D : DT} {W kn : Nat → Prop} {X : AS} (hd : DOK D W kn) (h : XOK D W kn X) (w : Nat) (t : Int32) : XOK D W kn (mdie D X w t) := by
  unfold mdie
  split
  · exact ((h.dead w).kil w 48).lv hd w t _
  · exact h
theorem XOK.res {D : DT} {W kn : Nat → Prop} {X : AS} (hd : DOK D W kn) (h : XOK D W kn X) (p : Nat) {w : Nat} (hw : W w) (t : Int32) : XOK D W kn (mres D X p w t) := by
  unfold mres
  split
  · exact h
  · split
    · split
      · exact (h.leave p t).take p (Or.inr ⟨w, hw, rfl⟩) t
      · exact (h.leave p t).give hd p t
    · exact (h.leave p t).give hd p t
theorem XOK.swp {D : DT} {W kn : Nat → Prop} {X : AS} (h : XOK D W kn X) {a b : Nat} (ha : a < mQ D) (hb : b < mQ D) (t : Int32) : XOK D W kn (mswp D X a b t) := by
  unfold mswp
  split
  · exact h
  · split
    · exact h
    · exact (((h.leave a t).leave b t).take a (h.1 b hb) t).take b (h.1 a ha) t
/-! the reference's writers -/
theorem md_takes {S : AS} {p : Nat} (hp : p < 16) (w t : Int32) : f_Md_takes (nI p) w t S = some (mtake S p w t) := by
  unfold f_Md_takes mtake
  simp only [nm_eq]
  rw [chk_pos (in_nI hp (by decide)), chk_pos (in_nI hp (by decide)), ix_nI (by omega)]
theorem fr_take {S : AS} (p : Nat) (w t : Int32) : fr pMC S (mtake S p w t) := by
  unfold mtake
  exact fr.si (fr.si (fr_rf pMC S) (by unfold pMC; omega)) (by unfold pMC; omega)
theorem RM.take {S : AS} {D : DT} {P K : Nat} {X : AS} (h : RM S D P K X) (p : Nat) (w t : Int32) : RM (mtake S p w t) D P K (mtake X p w t) := (h.si 85 p w).si 86 p t
theorem md_leaves {S : AS} {D : DT} {W kn : Nat → Prop} {P K : Nat} {X : AS} (hd : DOK D W kn) (hs : MSt S D W kn P K) (hx : XOK D W kn X) (hr : RM S D P K X) {p : Nat} (hp : p < mQ D) (t : Int32) : ∃ S', f_Md_leaves (nI p) t S = some S' ∧ fr pMC S S' ∧ RM S' D P K (mleave D X p t) := by
  obtain ⟨d1, d2, d3, d4, d5, d6, d7, d8⟩ := id hd
  obtain ⟨s1, s2, s3, s4, s5, s6, s7, s8, s9, s10⟩ := id hs
  unfold f_Md_leaves mleave
  simp only [nm_eq]
  rw [chk_pos (in_nI (by omega) (by decide)), ix_nI (by omega), (hr.1 p hp).1]
  rcases hx.1 p hp with h | ⟨w, hw, h⟩
  · rw [if_pos h, if_pos h]; exact ⟨S, rfl, fr_rf _ _, hr⟩
  · have hne : ¬ gi X 85 p = -1 := by rw [h]; exact nI_ne_m1 (by have := (d4 w hw).1; omega)
    have hw24 := (d4 w hw).1
    have hwP := (s9 w hw).1
    rw [if_neg hne, if_neg hne, h, m31, chk_pos (in_nI hw24 (by decide)), chk_pos (in_nI (by omega) (by decide)), chk_pos (in_nI (by omega) (by decide)), chk_pos (in_nI hw24 (by decide)), chk_pos (in_nI (by omega) (by decide)), ix_nI (by omega), ix_nI (by omega), s7, (hr.1 p hp).2, (hr.2.1 w hwP).2]
    refine ⟨_, rfl, fr.si (fr.sl (fr_rf pMC S) (by unfold pMC; omega)) (by unfold pMC; omega), (hr.sl 91 w _).si 85 p _⟩
theorem md_uses {S : AS} {D : DT} {W kn : Nat → Prop} {P K : Nat} {X : AS} (hd : DOK D W kn) (hs : MSt S D W kn P K) (hr : RM S D P K X) {k p : Nat} (hk : kn k) (hp : p < mQ D) (t : Int32) : ∃ S', f_Md_uses (nI k) (nI p) t S = some S' ∧ fr pMC S S' ∧ RM S' D P K (muse D X k p t) := by
  obtain ⟨d1, d2, d3, d4, d5, d6, d7, d8⟩ := id hd
  obtain ⟨s1, s2, s3, s4, s5, s6, s7, s8, s9, s10⟩ := id hs
  obtain ⟨k1, k2⟩ := s10 k hk
  have ek : gi S 78 (7 * k) = D 78 (7 * k) := k2 0 (by omega)
  unfold f_Md_uses muse
  simp only [nm_eq]
  rw [chk_pos (in_nI (by omega) (by decide)), chk_pos (in_nI (by omega) (by decide)), chk_pos (in_nI (by omega) (by decide)), m7, chk_pos (in_nI (by omega) (by decide)), ix_nI (by omega), ix_nI (by omega), show vp_nar .boolean 0 = 0 from rfl]
  have e3 : gi (si (si (si S 88 k 0) 89 k (nI p)) 90 k t) 78 (7 * k) = D 78 (7 * k) := by rw [gi_ne (by decide), gi_ne (by decide), gi_ne (by decide)]; exact ek
  rw [e3, md_takes (by omega), bV_eq]
  refine ⟨_, rfl, ?_, (((hr.si 88 k 0).si 89 k (nI p)).si 90 k t).take p _ t⟩
  exact (fr.si (fr.si (fr.si (fr_rf pMC S) (by unfold pMC; omega)) (by unfold pMC; omega)) (by unfold pMC; omega)).tr (fr_take p _ t)
theorem md_gives {S : AS} {D : DT} {W kn : Nat → Prop} {P K : Nat} {X : AS} (hd : DOK D W kn) (hs : MSt S D W kn P K) (hx : XOK D W kn X) (hr : RM S D P K X) {p : Nat} (hp : p < mQ D) (t : Int32) : ∃ S', f_Md_gives (nI p) t S = some S' ∧ fr pMC S S' ∧ RM S' D P K (mgive D X p t) := by
  obtain ⟨d1, d2, d3, d4, d5, d6, d7, d8⟩ := id hd
  obtain ⟨s1, s2, s3, s4, s5, s6, s7, s8, s9, s10⟩ := id hs
  have key : ∀ (J : Int32 → AS → Option AS) (f i : Nat), i ≤ K → K - i < f → f_Md_gives_L5 J (nI p) t f (mbest D X p t i) (nI i) S = J (mbest D X p t K) S := by
    intro J f
    induction f with
    | zero => intro i _ h; omega
    | succ f ih =>
      intro i hi hf
      rw [f_Md_gives_L5, s4]
      rcases Nat.lt_or_ge i K with q | q
      · have e := ih (i + 1) (by omega) (by omega)
        rw [mbest] at e
        rw [if_neg (nI_ge q (by omega)), md_may hd hs hx hr hp q t, bI_eq]
        simp only [nm_eq]
        rw [nI_1]
        by_cases hm : mmay D X i p t = 0
        · rw [if_pos hm] at e ⊢; exact e
        · have hki : kn i := by
            rcases hx.2.1 i with z | z
            · exact absurd z (mmay_live hm)
            · exact z.2
          rw [if_neg hm] at e ⊢
          rcases hx.best p t i with hb | ⟨b, b1, b2, b3⟩
          · rw [if_pos hb] at e ⊢; exact e
          · have hne : ¬ mbest D X p t i = -1 := by rw [b3]; exact nI_ne_m1 (by omega)
            rw [if_neg hne] at e ⊢
            rw [b3, ix_nI (by omega)] at e
            rw [b3, md_dec hd hs hr hp hki b2 t, bI_eq]
            by_cases hz : mDec D X p i b t < 0
            · rw [if_pos hz] at e ⊢; exact e
            · rw [if_neg hz] at e ⊢; exact e
      · rw [if_pos (nI_le q (by omega)), show i = K by omega]
  have hstop : mbest D X p t 48 = mbest D X p t K := mbest_stop (fun k hk => by
    rcases hx.2.1 k with z | z
    · exact z
    · exact absurd (s10 k z.2).1 (by omega)) s2
  unfold f_Md_gives mgive
  simp only [nm_eq]
  have k0 := key (fun (a1 : Int32) (S2 : AS) => if a1 = (-1) then (some S2) else (bV (f_Md_uses a1 (nI p) t S2) fun S3 => some S3)) FU 0 (by omega) (by rw [FU_succ]; omega)
  rw [show mbest D X p t 0 = -1 from rfl, nI_0] at k0
  rw [k0, hstop]
  rcases hx.best p t K with hb | ⟨b, b1, b2, b3⟩
  · rw [if_pos hb, if_pos hb]; exact ⟨S, rfl, fr_rf _ _, hr⟩
  · have hne : ¬ mbest D X p t K = -1 := by rw [b3]; exact nI_ne_m1 (by omega)
    rw [if_neg hne, if_neg hne, b3, ix_nI (by omega)]
    obtain ⟨S', u1, u2, u3⟩ := md_uses hd hs hr b2 hp t
    exact ⟨S', by rw [u1, bV_eq], u2, u3⟩
theorem md_comes {S : AS} {D : DT} {W kn : Nat → Prop} {P K : Nat} {X : AS} (hd : DOK D W kn) (hs : MSt S D W kn P K) (hx : XOK D W kn X) (hr : RM S D P K X) {k : Nat} (hk : kn k) (t : Int32) : ∃ S', f_Md_comes (nI k) t S = some S' ∧ fr pMC S S' ∧ RM S' D P K (mcome D X k t) := by
  obtain ⟨d1, d2, d3, d4, d5, d6, d7, d8⟩ := id hd
  obtain ⟨s1, s2, s3, s4, s5, s6, s7, s8, s9, s10⟩ := id hs
  obtain ⟨k1, k2⟩ := s10 k hk
  obtain ⟨-, ⟨w, w1, w2⟩, -⟩ := d5 k hk
  have hw24 := (d4 w w1).1
  have hwP := (s9 w w1).1
  have ek : gi S 78 (7 * k) = nI w := by rw [← w2]; exact k2 0 (by omega)
  unfold f_Md_comes mcome
  simp only [nm_eq]
  rw [m7, chk_pos (in_nI (by omega) (by decide)), ix_nI (by omega), ek, chk_pos (in_nI hw24 (by decide)), ix_nI (by omega), (hr.2.1 w hwP).1, w2, ix_nI (show w < 2147483648 by omega)]
  by_cases h0 : gi X 87 w = 0
  · rw [if_pos h0, if_pos h0, chk_pos (in_nI (by omega) (by decide)), ix_nI (by omega), show vp_nar .boolean 1 = 1 from rfl]
    have hr1 : RM (si S 88 k 1) D P K (si X 88 k 1) := hr.si 88 k 1
    have hf1 : fr pMC S (si S 88 k 1) := fr.si (fr_rf pMC S) (by unfold pMC; omega)
    have hs1 : MSt (si S 88 k 1) D W kn P K := hs.frM hf1
    have hx1 : XOK D W kn (si X 88 k 1) := hx.live k (Or.inr ⟨rfl, hk⟩)
    generalize si S 88 k 1 = T at hr1 hf1 hs1
    generalize si X 88 k 1 = Y at hr1 hx1
    obtain ⟨s1, s2, s3, s4, s5, s6, s7, s8, s9, s10⟩ := id hs1
    have key : ∀ (J : Int32 → AS → Option AS) (f i : Nat), i ≤ mQ D → mQ D - i < f → f_Md_comes_L30 J (nI k) t f (mfre D Y k t i) (nI i) T = J (mfre D Y k t (mQ D)) T := by
      intro J f
      induction f with
      | zero => intro i _ h; omega
      | succ f ih =>
        intro i hi hf
        rw [f_Md_comes_L30, s5, d2]
        rcases Nat.lt_or_ge i (mQ D) with q | q
        · have e := ih (i + 1) (by omega) (by omega)
          rw [mfre] at e
          rw [if_neg (nI_ge q (by omega)), chk_pos (in_nI (by omega) (by decide)), ix_nI (by omega), (hr1.1 i q).1]
          simp only [nm_eq]
          rw [nI_1]
          by_cases hh : gi Y 85 i = -1
          · rw [if_pos hh] at e ⊢
            rw [md_may hd hs1 hx1 hr1 q k1 t, bI_eq]
            by_cases hm : mmay D Y k i t = 0
            · rw [if_pos hm] at e ⊢; exact e
            · rw [if_neg hm] at e ⊢
              rcases mfre_ok D Y k t i with hb | ⟨b, b1, b2, -⟩
              · rw [if_pos hb] at e ⊢; exact e
              · have hne : ¬ mfre D Y k t i = -1 := by rw [b2]; exact nI_ne_m1 (by omega)
                rw [if_neg hne] at e ⊢
                rw [b2, ix_nI (by omega)] at e
                rw [b2, m31, m31, chk_pos (in_nI (by omega) (by decide)), chk_pos (in_nI (by omega) (by decide)), ix_nI (by omega), ix_nI (by omega), s7, s7]
                by_cases hz : D 73 (3 * i + 1) ≤ D 73 (3 * b + 1)
                · rw [if_pos hz] at e ⊢; exact e
                · rw [if_neg hz] at e ⊢; exact e
          · rw [if_neg hh] at e ⊢; exact e
        · rw [if_pos (nI_le q (by omega)), show i = mQ D by omega]
    have k0 := key (fun (a2 : Int32) (S3 : AS) => if a2 = (-1) then (some S3) else (bV (f_Md_uses (nI k) a2 t S3) fun S4 => some S4)) FU 0 (by omega) (by rw [FU_succ]; omega)
    rw [show mfre D Y k t 0 = -1 from rfl, nI_0] at k0
    rw [k0]
    rcases mfre_ok D Y k t (mQ D) with hb | ⟨b, b1, b2, -⟩
    · rw [if_pos hb, if_pos hb]; exact ⟨T, rfl, hf1, hr1⟩
    · have hne : ¬ mfre D Y k t (mQ D) = -1 := by rw [b2]; exact nI_ne_m1 (by omega)
      rw [if_neg hne, if_neg hne, b2, ix_nI (by omega)]
      obtain ⟨S', u1, u2, u3⟩ := md_uses hd hs1 hr1 hk b1 t
      exact ⟨S', by rw [u1, bV_eq], hf1.tr u2, u3⟩
  · rw [if_neg h0, if_neg h0]; exact ⟨S, rfl, fr_rf _ _, hr⟩
