/-! the class's writers -/
theorem mcnt_congr {X Y : AS} {w : Int32} {n : Nat} (h : ∀ p, p < n → gi X 85 p = gi Y 85 p) : mcnt X w n = mcnt Y w n := by
  induction n with
  | zero => rfl
  | succ n ih => rw [mcnt, mcnt, ih (fun p hp => h p (by omega)), h n (by omega)]
theorem mcnt_si {X : AS} {p : Nat} {v w : Int32} {n : Nat} (hp : p < n) : mcnt (si X 85 p v) w n + (if gi X 85 p = w then 1 else 0) = mcnt X w n + (if v = w then 1 else 0) := by
  induction n with
  | zero => omega
  | succ n ih =>
    rw [mcnt, mcnt]
    rcases Nat.lt_or_ge p n with h | h
    · have e : gi (si X 85 p v) 85 n = gi X 85 n := by rw [gi_si, if_neg (by omega)]
      rw [e]
      have := ih h
      omega
    · have e : p = n := by omega
      subst e
      rw [mcnt_congr (X := si X 85 p v) (Y := X) (fun q hq => by rw [gi_si, if_neg (by omega)])]
      have e2 : gi (si X 85 p v) 85 p = v := by rw [gi_si, if_pos ⟨rfl, rfl⟩]
      rw [e2]
      omega
def hw24 (x : Int32) : Prop := x = -1 ∨ ∃ w, w < 24 ∧ x = nI w
theorem cl_place {S : AS} {D : DT} {X : AS} {p : Nat} {v : Int32} (hQ : mQ D ≤ 16) (hp : p < mQ D) (hx : hw24 (gi X 85 p)) (hv : hw24 v) (h50 : gi S 50 p = gi X 85 p) (h52 : ∀ w, w < 24 → gi S 52 w = nI (mcnt X (nI w) (mQ D))) : ∃ S', f_Course_place (nI p) v S = some S' ∧ fr (fun c k => (c = 50 ∧ k = p) ∨ c = 52) S S' ∧ gi S' 50 p = v ∧ ∀ w, w < 24 → gi S' 52 w = nI (mcnt (si X 85 p v) (nI w) (mQ D)) := by
  have hin : vp_in (nI p) 16 := in_nI (by omega) (by decide)
  have fin : ∀ T : AS, fr (fun c k => (c = 50 ∧ k = p) ∨ c = 52) S T → (∀ w, w < 24 → ∃ c, gi T 52 w = nI c ∧ c + (if gi X 85 p = nI w then 1 else 0) = mcnt X (nI w) (mQ D)) → ∃ S', (chk (vp_in (nI p) 16) (if v = -1 then some (si T 50 (ix (nI p)) v) else chk (vp_in v 24) (chk (vp_in v 24) (some (si (si T 50 (ix (nI p)) v) 52 (ix v) (gi (si T 50 (ix (nI p)) v) 52 (ix v) + 1)))))) = some S' ∧ fr (fun c k => (c = 50 ∧ k = p) ∨ c = 52) S S' ∧ gi S' 50 p = v ∧ ∀ w, w < 24 → gi S' 52 w = nI (mcnt (si X 85 p v) (nI w) (mQ D)) := by
    intro T hT hc
    rw [chk_pos hin, ix_nI (by omega)]
    rcases hv with hv | ⟨u, hu, hv⟩
    · rw [if_pos hv]
      refine ⟨_, rfl, hT.si (Or.inl ⟨rfl, rfl⟩), by rw [gi_si, if_pos ⟨rfl, rfl⟩], fun w hw => ?_⟩
      obtain ⟨c, c1, c2⟩ := hc w hw
      rw [gi_ne (by decide), c1]
      have h := mcnt_si (X := X) (v := v) (w := nI w) hp
      rw [if_neg (show ¬ v = nI w from fun e => nI_ne_m1 (a := w) (by omega) (by rw [← e]; exact hv))] at h
      congr 1
      omega
    · have hne : ¬ v = -1 := by rw [hv]; exact nI_ne_m1 (by omega)
      rw [if_neg hne, hv, chk_pos (in_nI hu (by decide)), chk_pos (in_nI hu (by decide)), ix_nI (by omega)]
      refine ⟨_, rfl, (hT.si (Or.inl ⟨rfl, rfl⟩)).si (Or.inr rfl), by rw [gi_ne (by decide), gi_si, if_pos ⟨rfl, rfl⟩], fun w hw => ?_⟩
      obtain ⟨c, c1, c2⟩ := hc w hw
      have h := mcnt_si (X := X) (v := nI u) (w := nI w) hp
      rw [gi_si]
      by_cases e : w = u
      · subst e
        rw [if_pos ⟨rfl, rfl⟩, gi_ne (by decide), c1, nI_1]
        rw [if_pos rfl] at h
        congr 1
        omega
      · rw [if_neg (fun z => e z.2), gi_ne (by decide), c1]
        rw [if_neg (fun z => e (nI_inj (by omega) (by omega) z).symm)] at h
        congr 1
        omega
  unfold f_Course_place
  simp only [nm_eq]
  rw [chk_pos hin, ix_nI (by omega), h50]
  rcases hx with hx | ⟨u, hu, hx⟩
  · rw [if_pos hx]
    have h := fin S (fr_rf _ _) (fun w hw => ⟨_, h52 w hw, by rw [hx, if_neg (fun e => nI_ne_m1 (a := w) (by omega) e.symm)]; rfl⟩)
    rw [ix_nI (by omega)] at h
    exact h
  · have hne : ¬ gi X 85 p = -1 := by rw [hx]; exact nI_ne_m1 (by omega)
    rw [if_neg hne, chk_pos hin, hx, chk_pos (in_nI hu (by decide)), chk_pos (in_nI hu (by decide)), ix_nI (by omega)]
    have hpos : 0 < mcnt X (nI u) (mQ D) := by
      have h := mcnt_si (X := X) (v := -1) (w := nI u) hp
      rw [hx, if_pos rfl, if_neg (fun e => nI_ne_m1 (a := u) (by omega) e.symm)] at h
      omega
    have h := fin (si S 52 u (gi S 52 u - 1)) ((fr_rf _ _).si (Or.inr rfl)) (fun w hw => by
      rw [hx, gi_si]
      by_cases e : w = u
      · subst e
        rw [if_pos ⟨rfl, rfl⟩, h52 w hw, nI_sub1 hpos, if_pos rfl]
        exact ⟨_, rfl, by omega⟩
      · rw [if_neg (fun z => e z.2), h52 w hw, if_neg (fun z => e (nI_inj (by omega) (by omega) z).symm)]
        exact ⟨_, rfl, rfl⟩)
    rw [ix_nI (by omega)] at h
    exact h
theorem mtake_gi (X : AS) (p : Nat) (w t : Int32) (c k : Nat) : gi (mtake X p w t) c k = if c = 86 ∧ k = p then t else if c = 85 ∧ k = p then w else gi X c k := by
  unfold mtake
  rw [gi_si, gi_si]
theorem mtake_gl (X : AS) (p : Nat) (w t : Int32) (c k : Nat) : gl (mtake X p w t) c k = gl X c k := rfl
theorem mleave_gi (D : DT) (X : AS) (p : Nat) (t : Int32) (c k : Nat) : gi (mleave D X p t) c k = if c = 85 ∧ k = p then -1 else gi X c k := by
  unfold mleave
  by_cases h : gi X 85 p = -1
  · rw [if_pos h]
    by_cases e : c = 85 ∧ k = p
    · rw [if_pos e, e.1, e.2, h]
    · rw [if_neg e]
  · rw [if_neg h, gi_si, gi_sl]
theorem mleave_free {D : DT} {X : AS} {p : Nat} {t : Int32} (h : gi X 85 p = -1) : mleave D X p t = X := by
  unfold mleave
  rw [if_pos h]
theorem RC.congr {S : AS} {D : DT} {X Y : AS} (h : RC S D X) (h1 : ∀ p, p < mQ D → gi Y 85 p = gi X 85 p ∧ (¬ gi Y 85 p = -1 → gi Y 86 p = gi X 86 p)) (h2 : ∀ w, w < 24 → gl Y 91 w = gl X 91 w ∧ gi Y 87 w = gi X 87 w) (h3 : ∀ k, k < 48 → gi Y 88 k = gi X 88 k ∧ gi Y 89 k = gi X 89 k ∧ gi Y 90 k = gi X 90 k) : RC S D Y := by
  obtain ⟨a, b, c⟩ := h
  refine ⟨fun p hp => ?_, fun w hw => ?_, fun k hk => ?_⟩
  · obtain ⟨a1, a2⟩ := a p hp
    obtain ⟨b1, b2⟩ := h1 p hp
    refine ⟨by rw [b1]; exact a1, fun hz => ?_⟩
    rw [b2 hz]
    exact a2 (by rw [← b1]; exact hz)
  · rw [mcnt_congr (X := Y) (Y := X) (fun p hp => (h1 p hp).1), (h2 w hw).1, (h2 w hw).2]; exact b w hw
  · rw [(h3 k hk).1, (h3 k hk).2.1, (h3 k hk).2.2]; exact c k hk
theorem XOK.h24 {D : DT} {W kn : Nat → Prop} {X : AS} (hd : DOK D W kn) (h : XOK D W kn X) {p : Nat} (hp : p < mQ D) : hw24 (gi X 85 p) := by
  rcases h.1 p hp with z | ⟨w, hw, z⟩
  · exact Or.inl z
  · exact Or.inr ⟨w, (hd.2.2.2.1 w hw).1, z⟩
theorem cl_give {S : AS} {D : DT} {W kn : Nat → Prop} {P K : Nat} {X : AS} {t : Int32} (hd : DOK D W kn) (hs : CSt S D W kn P K) (hx : XOK D W kn X) (hr : RC S D X) (ht : gi S 49 14 = t) {p : Nat} (hp : p < mQ D) {v : Int32} (hv : hw24 v) : ∃ S', f_Course_give (nI p) v S = some S' ∧ fr pC0 S S' ∧ RC S' D (mtake (mleave D X p t) p v t) := by
  obtain ⟨d1, d2, d3, d4, d5, d6, d7, d8⟩ := id hd
  obtain ⟨s1, s2, s3, s4, s5, s6, s7, s8, s9, s10⟩ := id hs
  have hin : vp_in (nI p) 16 := in_nI (by omega) (by decide)
  have hx24 := hx.h24 hd hp
  have fin : ∀ T : AS, fr (fun c k => c = 53) S T → (∀ w, w < 24 → gl T 53 w = gl (mleave D X p t) 91 w) → ∃ S', (chk (vp_in (nI p) 16) (bV (f_Course_place (nI p) v (si T 51 (ix (nI p)) (gi T 49 14))) fun S3 => some S3)) = some S' ∧ fr pC0 S S' ∧ RC S' D (mtake (mleave D X p t) p v t) := by
    intro T hT h53
    have hT' : fr pC0 S T := hT.mono (fun c k h => by unfold pC0; omega)
    rw [chk_pos hin, ix_nI (by omega), hT.2.1 49 14 (by omega), ht]
    obtain ⟨S', p1, p2, p3, p4⟩ := cl_place (S := si T 51 p t) (X := X) d1 hp hx24 hv (by rw [gi_ne (by decide), hT.2.1 50 p (by omega)]; exact (hr.1 p hp).1) (fun w hw => by rw [gi_ne (by decide), hT.2.1 52 w (by omega)]; exact (hr.2.1 w hw).1)
    rw [p1, bV_eq]
    refine ⟨S', rfl, (hT'.si (by unfold pC0; omega)).tr (p2.mono (fun c k h => by unfold pC0; omega)), fun q hq => ?_, fun w hw => ?_, fun k hk => ?_⟩
    · simp only [mtake_gi, mleave_gi]
      by_cases e : q = p
      · subst e
        rw [p3, p2.2.1 51 q (by omega), gi_si]
        simp
      · rw [p2.2.1 50 q (by omega), p2.2.1 51 q (by omega), gi_si, gi_si, if_neg (by omega), if_neg (by omega), hT.2.1 50 q (by omega), hT.2.1 51 q (by omega)]
        simp only [e, and_false, if_false]
        exact hr.1 q hq
    · rw [p4 w hw, p2.2.2.1 53 w (by omega), gl_si, h53 w hw, p2.2.1 54 w (by omega), gi_ne (by decide), hT.2.1 54 w (by omega), (hr.2.1 w hw).2.2]
      refine ⟨?_, rfl, ?_⟩
      · congr 1
        exact mcnt_congr (fun q hq => by simp only [mtake_gi, mleave_gi, gi_si]; by_cases e : q = p <;> simp [e])
      · simp [mtake_gi, mleave_gi]
    · rw [p2.2.1 55 k (by omega), p2.2.1 56 k (by omega), p2.2.1 57 k (by omega), gi_ne (by decide), gi_ne (by decide), gi_ne (by decide), hT.2.1 55 k (by omega), hT.2.1 56 k (by omega), hT.2.1 57 k (by omega)]
      simp [mtake_gi, mleave_gi]
      exact hr.2.2 k hk
  unfold f_Course_give
  simp only [nm_eq]
  rw [chk_pos hin]
  have e50 : gi S 50 (ix (nI p)) = gi X 85 p := by rw [ix_nI (by omega)]; exact (hr.1 p hp).1
  rw [e50]
  rcases hx24 with hz | ⟨u, hu, hz⟩
  · rw [if_pos hz]
    exact fin S (fr_rf _ _) (fun w hw => by rw [mleave_free hz]; exact (hr.2.1 w hw).2.1)
  · have hne : ¬ gi X 85 p = -1 := by rw [hz]; exact nI_ne_m1 (by omega)
    have e21 : gi S 21 p = D 73 (3 * p + 1) := (s5 p hp).2.1
    have e51 : gi S 51 p = gi X 86 p := (hr.1 p hp).2 hne
    have h := fin (sl S 53 u (gl S 53 u + (D 73 (3 * p + 1)).toInt64 * (t - gi X 86 p).toInt64)) ((fr_rf _ _).sl rfl) (fun w hw => by
      unfold mleave
      rw [if_neg hne, hz, ix_nI (by omega), gl_sl, gl_si, gl_sl, (hr.2.1 w hw).2.1, (hr.2.1 u hu).2.1]
      by_cases e : w = u
      · rw [if_pos ⟨rfl, e⟩, if_pos ⟨rfl, e⟩]
      · rw [if_neg (fun z => e z.2), if_neg (fun z => e z.2)])
    rw [if_neg hne, chk_pos hin, hz, chk_pos (in_nI hu (by decide)), chk_pos hin, chk_pos hin, chk_pos (in_nI hu (by decide))]
    rw [ix_nI (n := u) (by omega)]
    have e21' : gi S 21 (ix (nI p)) = D 73 (3 * p + 1) := by rw [ix_nI (by omega)]; exact e21
    have e51' : gi S 51 (ix (nI p)) = gi X 86 p := by rw [ix_nI (by omega)]; exact e51
    rw [e21', e51', ht]
    exact h
theorem cl_free {S : AS} {D : DT} {W kn : Nat → Prop} {P K : Nat} {X : AS} {t : Int32} (hd : DOK D W kn) (hs : CSt S D W kn P K) (hx : XOK D W kn X) (hr : RC S D X) (ht : gi S 49 14 = t) {p : Nat} (hp : p < mQ D) : ∃ S', f_Course_give (nI p) (-1) S = some S' ∧ fr pC0 S S' ∧ RC S' D (mleave D X p t) := by
  obtain ⟨S', a, b, c⟩ := cl_give hd hs hx hr ht hp (Or.inl rfl)
  refine ⟨S', a, b, c.congr (fun q hq => ?_) (fun w hw => ?_) (fun k hk => ?_)⟩
  · simp only [mtake_gi, mleave_gi]
    by_cases e : q = p
    · simp [e]
    · simp [e]
  · simp [mtake_gi, mtake_gl, mleave_gi]
  · simp [mtake_gi, mleave_gi]
theorem RC.paper {S : AS} {D : DT} {X : AS} (h : RC S D X) (k : Nat) (v : Int32) : RC (si S 55 k v) D (si X 88 k v) ∧ RC (si S 56 k v) D (si X 89 k v) ∧ RC (si S 57 k v) D (si X 90 k v) := by
  obtain ⟨a, b, c⟩ := h
  refine ⟨⟨fun p hp => ?_, fun w hw => ?_, fun j hj => ?_⟩, ⟨fun p hp => ?_, fun w hw => ?_, fun j hj => ?_⟩, ⟨fun p hp => ?_, fun w hw => ?_, fun j hj => ?_⟩⟩
  · rw [gi_ne (by decide), gi_ne (by decide), gi_ne (by decide), gi_ne (by decide)]; exact a p hp
  · rw [gi_ne (by decide), gi_ne (by decide), gi_ne (by decide), gl_si, gl_si, mcnt_congr (X := si X 88 k v) (Y := X) (fun q hq => gi_ne (by decide))]; exact b w hw
  · rw [gi_si, gi_si, gi_ne (by decide), gi_ne (by decide), gi_ne (by decide), gi_ne (by decide), (c j hj).1]; exact ⟨by by_cases e : j = k <;> simp [e], (c j hj).2⟩
  · rw [gi_ne (by decide), gi_ne (by decide), gi_ne (by decide), gi_ne (by decide)]; exact a p hp
  · rw [gi_ne (by decide), gi_ne (by decide), gi_ne (by decide), gl_si, gl_si, mcnt_congr (X := si X 89 k v) (Y := X) (fun q hq => gi_ne (by decide))]; exact b w hw
  · rw [gi_ne (by decide), gi_ne (by decide), gi_si, gi_si, gi_ne (by decide), gi_ne (by decide), (c j hj).2.1]; exact ⟨(c j hj).1, by by_cases e : j = k <;> simp [e], (c j hj).2.2⟩
  · rw [gi_ne (by decide), gi_ne (by decide), gi_ne (by decide), gi_ne (by decide)]; exact a p hp
  · rw [gi_ne (by decide), gi_ne (by decide), gi_ne (by decide), gl_si, gl_si, mcnt_congr (X := si X 90 k v) (Y := X) (fun q hq => gi_ne (by decide))]; exact b w hw
  · rw [gi_ne (by decide), gi_ne (by decide), gi_ne (by decide), gi_ne (by decide), gi_si, gi_si, (c j hj).2.2]; exact ⟨(c j hj).1, (c j hj).2.1, by by_cases e : j = k <;> simp [e]⟩
theorem RC.dead {S : AS} {D : DT} {X : AS} (h : RC S D X) (k : Nat) (v : Int32) : RC (si S 54 k v) D (si X 87 k v) := by
  obtain ⟨a, b, c⟩ := h
  refine ⟨fun p hp => ?_, fun w hw => ?_, fun j hj => ?_⟩
  · rw [gi_ne (by decide), gi_ne (by decide), gi_ne (by decide), gi_ne (by decide)]; exact a p hp
  · rw [gi_ne (by decide), gl_si, gl_si, mcnt_congr (X := si X 87 k v) (Y := X) (fun q hq => gi_ne (by decide)), gi_si, gi_si, (b w hw).2.2]; exact ⟨(b w hw).1, (b w hw).2.1, by by_cases e : w = k <;> simp [e]⟩
  · rw [gi_ne (by decide), gi_ne (by decide), gi_ne (by decide), gi_ne (by decide), gi_ne (by decide), gi_ne (by decide)]; exact c j hj
theorem cl_use {S : AS} {D : DT} {W kn : Nat → Prop} {P K : Nat} {X : AS} {t : Int32} (hd : DOK D W kn) (hs : CSt S D W kn P K) (hx : XOK D W kn X) (hr : RC S D X) (ht : gi S 49 14 = t) {k p : Nat} (hk : kn k) (hp : p < mQ D) (hfree : gi X 85 p = -1) : ∃ S', f_Course_use (nI k) (nI p) S = some S' ∧ fr pC0 S S' ∧ RC S' D (muse D X k p t) := by
  obtain ⟨d1, d2, d3, d4, d5, d6, d7, d8⟩ := id hd
  obtain ⟨s1, s2, s3, s4, s5, s6, s7, s8, s9, s10⟩ := id hs
  obtain ⟨k48, ⟨wa, wa1, wa2⟩, -⟩ := d5 k hk
  have w24 := (d4 wa wa1).1
  have hin : vp_in (nI k) 48 := in_nI k48 (by decide)
  have f3 : fr pC0 S (si (si (si S 55 k 0) 56 k (nI p)) 57 k t) := fr.si (fr.si (fr.si (fr_rf _ S) (by unfold pC0; omega)) (by unfold pC0; omega)) (by unfold pC0; omega)
  have r3 : RC (si (si (si S 55 k 0) 56 k (nI p)) 57 k t) D (si (si (si X 88 k 0) 89 k (nI p)) 90 k t) := ((hr.paper k 0).1.paper k (nI p)).2.1.paper k t |>.2.2
  have x3 : XOK D W kn (si (si (si X 88 k 0) 89 k (nI p)) 90 k t) := ((hx.live k (Or.inl rfl)).other (Or.inl rfl) k _).other (Or.inr rfl) k _
  have e24 : gi (si (si (si S 55 k 0) 56 k (nI p)) 57 k t) 24 k = nI wa := by rw [gi_ne (by decide), gi_ne (by decide), gi_ne (by decide), (s7 k hk).2.1, wa2]
  have e14 : gi (si (si (si S 55 k 0) 56 k (nI p)) 57 k t) 49 14 = t := by rw [gi_ne (by decide), gi_ne (by decide), gi_ne (by decide)]; exact ht
  have e14' : gi (si (si S 55 k 0) 56 k (nI p)) 49 14 = t := by rw [gi_ne (by decide), gi_ne (by decide)]; exact ht
  obtain ⟨S', a, b, c⟩ := cl_give hd (hs.mv f3) x3 r3 e14 hp (v := nI wa) (Or.inr ⟨wa, w24, rfl⟩)
  refine ⟨S', ?_, f3.tr b, ?_⟩
  · unfold f_Course_use
    simp only [nm_eq, chk_pos hin]
    rw [ix_nI (by omega), show vp_nar .boolean 0 = 0 from rfl, e14', e24, a, bV_eq]
  · have e : gi (si (si (si X 88 k 0) 89 k (nI p)) 90 k t) 85 p = -1 := by rw [gi_ne (by decide), gi_ne (by decide), gi_ne (by decide)]; exact hfree
    rw [mleave_free e] at c
    unfold muse
    rw [wa2]; exact c
theorem cl_fill {S : AS} {D : DT} {W kn : Nat → Prop} {P K : Nat} {X : AS} {t : Int32} (hd : DOK D W kn) (hs : CSt S D W kn P K) (hx : XOK D W kn X) (hr : RC S D X) (hT : TR S D t) {p : Nat} (hp : p < mQ D) (hfree : gi X 85 p = -1) : ∃ S', f_Course_fill (nI p) S = some S' ∧ fr pC0 S S' ∧ RC S' D (mgive D X p t) := by
  obtain ⟨d1, d2, d3, d4, d5, d6, d7, d8⟩ := id hd
  obtain ⟨s1, s2, s3, s4, s5, s6, s7, s8, s9, s10⟩ := id hs
  have key : ∀ (f i : Nat) (T : AS), i ≤ K → K - i < f → fr pCF S T → ∃ T', (∀ J : Int32 → AS → Option AS, f_Course_fill_L4 J (nI p) f (mbest D X p t i) (nI i) T = J (mbest D X p t K) T') ∧ fr pCF S T' := by
    intro f
    induction f with
    | zero => intro i T _ h; omega
    | succ f ih =>
      intro i T hi hf hfr
      have h23 : gi T 23 8 = nI K := by rw [hfr.2.1 23 8 (by unfold pCF; omega)]; exact s4
      rcases Nat.lt_or_ge i K with q | q
      · obtain ⟨T1, a1, a2⟩ := cl_may hd (hs.mv (pCF_0 hfr)) hx (hr.mv hfr d1) (hT.mv (pCF_0 hfr)) hp q
        have f1 := hfr.tr a2
        by_cases hm : mmay D X i p t = 0
        · obtain ⟨T', g1, g2⟩ := ih (i + 1) T1 (by omega) (by omega) f1
          refine ⟨T', fun J => ?_, g2⟩
          have e := g1 J
          rw [mbest, if_pos hm] at e
          rw [f_Course_fill_L4, h23, if_neg (nI_ge q (by omega)), a1, bI_eq]
          simp only [nm_eq]
          rw [if_pos hm, nI_1]; exact e
        · have hki : kn i := by
            rcases hx.2.1 i with z | z
            · exact absurd z (mmay_live hm)
            · exact z.2
          rcases hx.best p t i with hb | ⟨b, b1, b2, b3⟩
          · obtain ⟨T', g1, g2⟩ := ih (i + 1) T1 (by omega) (by omega) f1
            refine ⟨T', fun J => ?_, g2⟩
            have e := g1 J
            rw [mbest, if_neg hm, if_pos hb] at e
            rw [f_Course_fill_L4, h23, if_neg (nI_ge q (by omega)), a1, bI_eq]
            simp only [nm_eq]
            rw [if_neg hm, if_pos hb, nI_1]; exact e
          · have hne : ¬ mbest D X p t i = -1 := by rw [b3]; exact nI_ne_m1 (by omega)
            obtain ⟨T2, c1, c2⟩ := cl_duel hd (hs.mv (pCF_0 f1)) (hr.mv f1 d1) (hT.mv (pCF_0 f1)) hp hki b2 (by omega)
            obtain ⟨T', g1, g2⟩ := ih (i + 1) T2 (by omega) (by omega) (f1.tr c2)
            refine ⟨T', fun J => ?_, g2⟩
            have e := g1 J
            rw [mbest, if_neg hm, if_neg hne, b3, ix_nI (by omega)] at e
            rw [f_Course_fill_L4, h23, if_neg (nI_ge q (by omega)), a1, bI_eq]
            simp only [nm_eq]
            rw [if_neg hm, if_neg hne, b3, c1, bI_eq, nI_1]
            by_cases hz : mDec D X p i b t < 0
            · rw [if_pos hz] at e ⊢; exact e
            · rw [if_neg hz] at e ⊢; exact e
      · refine ⟨T, fun J => ?_, hfr⟩
        rw [f_Course_fill_L4, h23, if_pos (nI_le q (by omega)), show i = K by omega]
  have hstop : mbest D X p t 48 = mbest D X p t K := mbest_stop (fun k hk => by
    rcases hx.2.1 k with z | z
    · exact z
    · exact absurd (s7 k z.2).1 (by omega)) s2
  obtain ⟨T, k1, k2⟩ := key FU 0 S (by omega) (by rw [FU_succ]; omega) (fr_rf _ _)
  rw [show mbest D X p t 0 = -1 from rfl, nI_0] at k1
  unfold f_Course_fill mgive
  simp only [nm_k]
  rw [k1, hstop]
  rcases hx.best p t K with hb | ⟨b, b1, b2, b3⟩
  · rw [if_pos hb, if_pos hb]; exact ⟨T, rfl, pCF_0 k2, hr.mv k2 d1⟩
  · have hne : ¬ mbest D X p t K = -1 := by rw [b3]; exact nI_ne_m1 (by omega)
    rw [if_neg hne, if_neg hne, b3, ix_nI (by omega)]
    obtain ⟨S', u1, u2, u3⟩ := cl_use hd (hs.mv (pCF_0 k2)) hx (hr.mv k2 d1) (hT.mv (pCF_0 k2)).1 b2 hp hfree
    exact ⟨S', by rw [u1, bV_eq], (pCF_0 k2).tr u2, u3⟩
theorem cl_come {S : AS} {D : DT} {W kn : Nat → Prop} {P K : Nat} {X : AS} {t : Int32} (hd : DOK D W kn) (hs : CSt S D W kn P K) (hx : XOK D W kn X) (hr : RC S D X) (hT : TR S D t) {k : Nat} (hk : kn k) : ∃ S', f_Course_comeAlive (nI k) S = some S' ∧ fr pC0 S S' ∧ RC S' D (mcome D X k t) := by
  obtain ⟨d1, d2, d3, d4, d5, d6, d7, d8⟩ := id hd
  obtain ⟨s1, s2, s3, s4, s5, s6, s7, s8, s9, s10⟩ := id hs
  obtain ⟨k48, ⟨wa, wa1, wa2⟩, -⟩ := d5 k hk
  have w24 := (d4 wa wa1).1
  have kK := (s7 k hk).1
  have hin : vp_in (nI k) 48 := in_nI k48 (by decide)
  have e24 : gi S 24 k = nI wa := by rw [(s7 k hk).2.1]; exact wa2
  unfold f_Course_comeAlive mcome
  simp only [nm_k]
  rw [chk_pos hin, chk_pos hin, ix_nI (by omega), e24, chk_pos (in_nI w24 (by decide)), ix_nI (by omega), (hr.2.1 wa w24).2.2, wa2, ix_nI (by omega), show vp_nar .boolean 1 = 1 from rfl]
  by_cases h0 : gi X 87 wa = 0
  rotate_left
  · rw [if_neg h0, if_neg h0]; exact ⟨S, rfl, fr_rf _ _, hr⟩
  rw [if_pos h0, if_pos h0]
  have hr1 : RC (si S 55 k 1) D (si X 88 k 1) := (hr.paper k 1).1
  have hf1 : fr pC0 S (si S 55 k 1) := fr.si (fr_rf pC0 S) (by unfold pC0; omega)
  have hx1 : XOK D W kn (si X 88 k 1) := hx.live k (Or.inr ⟨rfl, hk⟩)
  generalize si S 55 k 1 = S1 at hr1 hf1
  generalize si X 88 k 1 = Y at hr1 hx1
  have hs1 := hs.mv hf1
  have hT1 := hT.mv hf1
  have key : ∀ (f i : Nat) (T : AS), i ≤ mQ D → mQ D - i < f → fr pCF S1 T → ∃ T', (∀ J : Int32 → AS → Option AS, f_Course_comeAlive_L29 J (nI k) f (mfre D Y k t i) (nI i) T = J (mfre D Y k t (mQ D)) T') ∧ fr pCF S1 T' := by
    intro f
    induction f with
    | zero => intro i T _ h; omega
    | succ f ih =>
      intro i T hi hf hfr
      have hsT := hs1.mv (pCF_0 hfr)
      have h7 : gi T 16 7 = nI (mQ D) := hsT.2.2.1
      rcases Nat.lt_or_ge i (mQ D) with q | q
      · have e50 : gi T 50 i = gi Y 85 i := ((hr1.mv hfr d1).1 i q).1
        have hin2 : vp_in (nI i) 16 := in_nI (by omega) (by decide)
        have e21 : gi T 21 i = D 73 (3 * i + 1) := (hsT.2.2.2.2.1 i q).2.1
        by_cases hh : gi Y 85 i = -1
        · obtain ⟨T1, a1, a2⟩ := cl_may hd hsT hx1 (hr1.mv hfr d1) (hT1.mv (pCF_0 hfr)) q kK
          rcases mfre_ok D Y k t i with hb | ⟨b, b1, b2, -⟩
          · obtain ⟨T', g1, g2⟩ := ih (i + 1) T1 (by omega) (by omega) (hfr.tr a2)
            refine ⟨T', fun J => ?_, g2⟩
            have e := g1 J
            rw [mfre, if_pos hh, if_pos hb] at e
            rw [f_Course_comeAlive_L29, h7, if_neg (nI_ge q (by omega)), chk_pos hin2, ix_nI (by omega), e50]
            simp only [nm_eq]
            rw [if_pos hh, if_pos hb, a1, bI_eq, nI_1]
            by_cases hm : mmay D Y k i t = 0
            · rw [if_pos hm] at e ⊢; exact e
            · rw [if_neg hm] at e ⊢; exact e
          · have hne : ¬ mfre D Y k t i = -1 := by rw [b2]; exact nI_ne_m1 (by omega)
            have e21b : gi T 21 b = D 73 (3 * b + 1) := (hsT.2.2.2.2.1 b (by omega)).2.1
            by_cases hz : D 73 (3 * i + 1) ≤ D 73 (3 * b + 1)
            · obtain ⟨T', g1, g2⟩ := ih (i + 1) T (by omega) (by omega) hfr
              refine ⟨T', fun J => ?_, g2⟩
              have e := g1 J
              rw [mfre, if_pos hh, if_neg hne, b2, ix_nI (by omega), if_pos hz, ite_self] at e
              rw [f_Course_comeAlive_L29, h7, if_neg (nI_ge q (by omega)), chk_pos hin2, ix_nI (by omega), e50]
              simp only [nm_eq]
              rw [if_pos hh, if_neg hne, chk_pos hin2, b2, chk_pos (in_nI (by omega) (by decide)), ix_nI (by omega), e21, e21b, if_pos hz, nI_1]
              exact e
            · obtain ⟨T', g1, g2⟩ := ih (i + 1) T1 (by omega) (by omega) (hfr.tr a2)
              refine ⟨T', fun J => ?_, g2⟩
              have e := g1 J
              rw [mfre, if_pos hh, if_neg hne, b2, ix_nI (by omega), if_neg hz] at e
              rw [f_Course_comeAlive_L29, h7, if_neg (nI_ge q (by omega)), chk_pos hin2, ix_nI (by omega), e50]
              simp only [nm_eq]
              rw [if_pos hh, if_neg hne, chk_pos hin2, b2, chk_pos (in_nI (by omega) (by decide)), ix_nI (by omega), e21, e21b, if_neg hz, a1, bI_eq, nI_1]
              by_cases hm : mmay D Y k i t = 0
              · rw [if_pos hm] at e ⊢; exact e
              · rw [if_neg hm] at e ⊢; exact e
        · obtain ⟨T', g1, g2⟩ := ih (i + 1) T (by omega) (by omega) hfr
          refine ⟨T', fun J => ?_, g2⟩
          have e := g1 J
          rw [mfre, if_neg hh] at e
          rw [f_Course_comeAlive_L29, h7, if_neg (nI_ge q (by omega)), chk_pos hin2, ix_nI (by omega), e50]
          simp only [nm_eq]
          rw [if_neg hh, nI_1]; exact e
      · refine ⟨T, fun J => ?_, hfr⟩
        rw [f_Course_comeAlive_L29, h7, if_pos (nI_le q (by omega)), show i = mQ D by omega]
  obtain ⟨T, k1, k2⟩ := key FU 0 S1 (by omega) (by rw [FU_succ]; omega) (fr_rf _ _)
  rw [show mfre D Y k t 0 = -1 from rfl, nI_0] at k1
  rw [k1]
  rcases mfre_ok D Y k t (mQ D) with hb | ⟨b, b1, b2, b3⟩
  · rw [if_pos hb, if_pos hb]; exact ⟨T, rfl, hf1.tr (pCF_0 k2), hr1.mv k2 d1⟩
  · have hne : ¬ mfre D Y k t (mQ D) = -1 := by rw [b2]; exact nI_ne_m1 (by omega)
    rw [if_neg hne, if_neg hne, b2, ix_nI (by omega)]
    obtain ⟨S', u1, u2, u3⟩ := cl_use hd (hs1.mv (pCF_0 k2)) hx1 (hr1.mv k2 d1) (hT1.mv (pCF_0 k2)).1 hk b1 b3
    exact ⟨S', by rw [u1, bV_eq], (hf1.tr (pCF_0 k2)).tr u2, u3⟩
