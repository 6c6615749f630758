/-! rings: the class -/
def lst (X : AS) (x : Int32) : Nat → Int32
  | 0 => -1
  | q + 1 => if gi X 85 q = x then nI q else lst X x q
theorem mcnt_zero {X : AS} {x : Int32} {n : Nat} (h : mcnt X x n = 0) : ∀ q, q < n → ¬ gi X 85 q = x := by
  induction n with
  | zero => intro q hq; omega
  | succ n ih =>
    rw [mcnt] at h
    intro q hq e
    by_cases z : q = n
    · rw [← z, if_pos e] at h; omega
    · exact ih (by omega) q (by omega) e
theorem lst_spec {X : AS} {x : Int32} {n : Nat} (h : mcnt X x n = 1) : ∃ q, q < n ∧ lst X x n = nI q ∧ gi X 85 q = x ∧ ∀ q', q' < n → gi X 85 q' = x → q' = q := by
  induction n with
  | zero => rw [mcnt] at h; omega
  | succ n ih =>
    rw [mcnt] at h
    rw [lst]
    by_cases z : gi X 85 n = x
    · rw [if_pos z] at h
      rw [if_pos z]
      refine ⟨n, by omega, rfl, z, fun q' hq' e => ?_⟩
      by_cases y : q' = n
      · exact y
      · exact absurd e (mcnt_zero (n := n) (by omega) q' (by omega))
    · rw [if_neg z] at h
      rw [if_neg z]
      obtain ⟨q, a, b, c, d⟩ := ih (by omega)
      refine ⟨q, by omega, b, c, fun q' hq' e => ?_⟩
      by_cases y : q' = n
      · rw [y] at e; exact absurd e z
      · exact d q' (by omega) e
def mRD (S X : AS) (Q : Nat) : RD := (fun q => gi X 85 q, fun w => ix (gi S 65 w), fun w i => ix (gi S 64 (3 * w + i)), fun w => ix (lst X (nI w) Q))
def mA0 (X : AS) (Q : Nat) (w : Nat) : Prop := w < 24 ∧ mcnt X (nI w) Q = 1
theorem mRG {S X : AS} {Q : Nat} (hQ : Q ≤ 16) (hU : ∀ w, w < 24 → ∃ m : Nat, m ≤ 3 ∧ gi S 65 w = nI m ∧ ∀ i, i < m → ∃ p, p < Q ∧ gi S 64 (3 * w + i) = nI p) : RG (mRD S X Q) (mA0 X Q) Q := by
  refine ⟨fun w hw => ?_, fun w hw i hi => ?_⟩
  · obtain ⟨q, a, b, c, d⟩ := lst_spec hw.2
    have e : (mRD S X Q).2.2.2 w = q := by show ix (lst X (nI w) Q) = q; rw [b]; exact ix_nI (by omega)
    rw [e]
    exact ⟨hw.1, a, c, d⟩
  · obtain ⟨m, m1, m2, m3⟩ := hU w hw
    have hi' : i < ix (gi S 65 w) := hi
    rw [m2, ix_nI (by omega)] at hi'
    obtain ⟨p, p1, p2⟩ := m3 i hi'
    show ix (gi S 64 (3 * w + i)) < Q
    rw [p2, ix_nI (by omega)]; exact p1
/-- what the class's cells hold while the rings turn: offered posts -/
def OFF (T : AS) (R : RD) (A : Nat → Prop) : Prop := ∀ w, w < 24 → gi T 66 w = pif (A w) (nI (R.2.2.2 w)) (-1)
theorem of_in {X T : AS} {Q : Nat} (hQ : Q ≤ 16) (h50 : ∀ q, q < Q → gi T 50 q = gi X 85 q) (x : Int32) : ∀ (f i : Nat), i ≤ Q → Q - i < f → ∀ J : Int32 → Int32 → AS → Option AS, f_Exchange_offerSinglePosts_50_L25 J (nI Q) x f (nI (mcnt X x i)) (lst X x i) (nI i) T = J (nI (mcnt X x Q)) (lst X x Q) T := by
  intro f
  induction f with
  | zero => intro i _ h; omega
  | succ f ih =>
    intro i hi hf J
    rw [f_Exchange_offerSinglePosts_50_L25]
    rcases Nat.lt_or_ge i Q with q | q
    · rw [if_neg (nI_ge q (by omega)), chk_pos (in_nI (by omega) (by decide)), ix_nI (by omega), h50 i q]
      simp only [nm_k]
      have e := ih (i + 1) (by omega) (by omega) J
      rw [mcnt, lst] at e
      by_cases hh : gi X 85 i = x
      · rw [if_pos hh, nI_1, nI_1]; rw [if_pos hh, if_pos hh] at e; exact e
      · rw [if_neg hh, nI_1]; rw [if_neg hh, if_neg hh, Nat.add_zero] at e; exact e
    · rw [if_pos (nI_le q (by omega)), show i = Q by omega]
theorem of_out {X : AS} {Q : Nat} (hQ : Q ≤ 16) : ∀ (f i : Nat) (T : AS), i ≤ 24 → 24 - i < f → (∀ q, q < Q → gi T 50 q = gi X 85 q) → ∃ T', (∀ J : AS → Option AS, f_Exchange_offerSinglePosts_50_L10 J (nI Q) f (nI i) T = J T') ∧ fr (fun c k => c = 66 ∧ i ≤ k) T T' ∧ ∀ w, i ≤ w → w < 24 → gi T' 66 w = if mcnt X (nI w) Q = 1 then lst X (nI w) Q else -1 := by
  intro f
  induction f with
  | zero => intro i T _ h; omega
  | succ f ih =>
    intro i T hi hf h50
    rcases Nat.lt_or_ge i 24 with q | q
    · have e0 := of_in hQ h50 (nI i) FU 0 (by omega) (by rw [FU_succ]; omega)
      rw [show mcnt X (nI i) 0 = 0 from rfl, show lst X (nI i) 0 = -1 from rfl, nI_0] at e0
      have hin : vp_in (nI i) 24 := in_nI q (by decide)
      have unf : ∀ J : AS → Option AS, f_Exchange_offerSinglePosts_50_L10 J (nI Q) (f + 1) (nI i) T = f_Exchange_offerSinglePosts_50_L10 J (nI Q) f (nI (i + 1)) (si T 66 i (if mcnt X (nI i) Q = 1 then lst X (nI i) Q else -1)) := fun J => by
        rw [f_Exchange_offerSinglePosts_50_L10, if_neg (show ¬ (24 : Int32) ≤ nI i from nI_ge (b := 24) q (by decide))]
        simp only [nm_k]
        rw [e0]
        have hm := mcnt_le X (nI i) Q
        by_cases z : mcnt X (nI i) Q = 1
        · rw [if_pos z, if_pos (show nI (mcnt X (nI i) Q) = 1 by rw [z]; rfl), chk_pos hin, ix_nI (by omega), nI_1]
        · rw [if_neg z, if_neg (show ¬ nI (mcnt X (nI i) Q) = 1 from fun y => z (nI_inj (b := 1) (by omega) (by omega) y)), chk_pos hin, ix_nI (by omega), nI_1]
      obtain ⟨T', a, b, c⟩ := ih (i + 1) (si T 66 i (if mcnt X (nI i) Q = 1 then lst X (nI i) Q else -1)) (by omega) (by omega) (fun q hq => by rw [gi_si, if_neg (by omega)]; exact h50 q hq)
      refine ⟨T', fun J => by rw [unf]; exact a J, fr.tr (P := fun c k => c = 66 ∧ i ≤ k) ((fr_rf _ T).si ⟨rfl, Nat.le_refl _⟩) (b.mono (fun c k h => ⟨h.1, by omega⟩)), fun w w1 w2 => ?_⟩
      by_cases e : w = i
      · rw [e, b.2.1 66 i (by omega), gi_si, if_pos ⟨rfl, rfl⟩]
      · exact c w (by omega) w2
    · refine ⟨T, fun J => ?_, fr_rf _ _, fun w w1 w2 => by omega⟩
      rw [f_Exchange_offerSinglePosts_50_L10, if_pos (show (24 : Int32) ≤ nI i from nI_le (a := 24) q (by omega))]
theorem hol24 {X : AS} {Q q : Nat} (hX : ∀ q, q < Q → gi X 85 q = -1 ∨ ∃ w, w < 24 ∧ gi X 85 q = nI w) (hq : q < Q) : gi X 85 q = -1 ∨ ∃ w, w < 24 ∧ gi X 85 q = nI w := hX q hq
theorem cl_point {T X : AS} {Q : Nat} {A : Nat → Prop} (hQ : Q ≤ 16) (hX : ∀ q, q < Q → gi X 85 q = -1 ∨ ∃ w, w < 24 ∧ gi X 85 q = nI w) (h50 : ∀ q, q < Q → gi T 50 q = gi X 85 q) (hU : ∀ w, w < 24 → ∃ m : Nat, m ≤ 3 ∧ gi T 65 w = nI m ∧ ∀ i, i < m → ∃ p, p < Q ∧ gi T 64 (3 * w + i) = nI p) (hA : ∀ w, A w → mA0 X Q w) (hO : OFF T (mRD T X Q) A) {w : Nat} (hw : A w) : f_Exchange_pointFrom_50 (nI w) T = some (nI (tt (mRD T X Q) A w), T) := by
  have hR := mRG (S := T) (X := X) hQ hU
  have w24 := (hA w hw).1
  obtain ⟨m, m1, m2, m3⟩ := hU w w24
  have em : (mRD T X Q).2.1 w = m := by show ix (gi T 65 w) = m; rw [m2]; exact ix_nI (by omega)
  have key : ∀ (f c i : Nat), i + c = m → c < f → ∀ J : AS → Option (Int32 × AS), f_Exchange_pointFrom_50_L2 J (nI w) f (nI i) T = if fw (mRD T X Q) A w c i < m then some (gi X 85 ((mRD T X Q).2.2.1 w (fw (mRD T X Q) A w c i)), T) else J T := by
    intro f
    induction f with
    | zero => intro c i _ h; omega
    | succ f ih =>
      intro c i hi hf J
      have hin : vp_in (nI w) 24 := in_nI w24 (by decide)
      rw [f_Exchange_pointFrom_50_L2, chk_pos hin, ix_nI (by omega), m2]
      cases c with
      | zero => rw [fw, if_pos (nI_le (by omega) (by omega)), if_neg (by omega)]
      | succ c =>
        obtain ⟨p, p1, p2⟩ := m3 i (by omega)
        have ep : (mRD T X Q).2.2.1 w i = p := by show ix (gi T 64 (3 * w + i)) = p; rw [p2]; exact ix_nI (by omega)
        have e3 : nI w * 3 + nI i = nI (3 * w + i) := by rw [show (3 : Int32) = nI 3 from rfl, pk_mul, nI_add, Nat.mul_comm]
        rw [if_neg (nI_ge (by omega) (by omega)), e3, chk_pos (in_nI (by omega) (by decide)), ix_nI (by omega), p2, chk_pos (in_nI (by omega) (by decide)), ix_nI (by omega), h50 p p1]
        simp only [nm_k]
        rw [nI_1, fw]
        have next := ih c (i + 1) (by omega) (by omega) J
        rcases hX p p1 with z | ⟨v, v1, v2⟩
        · rw [if_pos z, pif_neg (fun y => by
            obtain ⟨v, y1, y2, y3⟩ := y
            have y2' : gi X 85 ((mRD T X Q).2.2.1 w i) = nI v := y2
            rw [ep, z] at y2'
            exact nI_ne_m1 (a := v) (by omega) y2'.symm)]
          exact next
        · rw [v2, if_neg (nI_ne_m1 (by omega)), chk_pos (in_nI v1 (by decide)), ix_nI (by omega), hO v v1]
          by_cases y : A v
          · have own16 := (hR.1 v (hA v y)).2.1
            have ex : ∃ v, v < 24 ∧ (mRD T X Q).1 ((mRD T X Q).2.2.1 w i) = nI v ∧ A v := ⟨v, v1, by rw [ep]; exact v2, y⟩
            rw [pif_pos y, if_neg (nI_ne_m1 (by omega)), pif_pos ex, if_pos (by omega), ep, v2]
          · rw [pif_neg y, if_pos rfl, pif_neg (fun z => by
              obtain ⟨v', z1, z2, z3⟩ := z
              have z2' : gi X 85 ((mRD T X Q).2.2.1 w i) = nI v' := z2
              rw [ep, v2] at z2'
              have : v = v' := nI_inj (by omega) (by omega) z2'
              rw [← this] at z3
              exact y z3)]
            exact next
  obtain ⟨s1, s2, s3, s4⟩ := pt_spec hR hA hw
  unfold f_Exchange_pointFrom_50
  simp only [nm_k]
  have k0 := key FU m 0 (by omega) (by rw [FU_succ]; omega) (fun S1 => some (nI w, S1))
  rw [nI_0] at k0
  rw [k0]
  by_cases z : fw (mRD T X Q) A w m 0 < m
  · have e : pt (mRD T X Q) A w = (mRD T X Q).2.2.1 w (fw (mRD T X Q) A w m 0) := by unfold pt; rw [em, if_pos z]
    rw [if_pos z, ← e]
    have s3' : gi X 85 (pt (mRD T X Q) A w) = nI (tt (mRD T X Q) A w) := s3
    rw [s3']
  · have e : pt (mRD T X Q) A w = (mRD T X Q).2.2.2 w := by unfold pt; rw [em, if_neg z]
    rw [if_neg z, ← s3, e, (hR.1 w (hA w hw)).2.2.1]
theorem mRD_congr {S T X : AS} {Q : Nat} (h : ∀ c k, c = 64 ∨ c = 65 → gi T c k = gi S c k) : mRD T X Q = mRD S X Q := by
  unfold mRD
  simp only [h 65 _ (Or.inr rfl), h 64 _ (Or.inl rfl)]
/-- the standing facts of a turn -/
def TRN (T X : AS) (Q : Nat) : Prop := Q ≤ 16 ∧ (∀ q, q < Q → gi X 85 q = -1 ∨ ∃ w, w < 24 ∧ gi X 85 q = nI w) ∧ (∀ q, q < Q → gi T 50 q = gi X 85 q) ∧ ∀ w, w < 24 → ∃ m : Nat, m ≤ 3 ∧ gi T 65 w = nI m ∧ ∀ i, i < m → ∃ p, p < Q ∧ gi T 64 (3 * w + i) = nI p
theorem TRN.mv {S T X : AS} {Q : Nat} (h : TRN S X Q) (e : ∀ c k, c = 50 ∨ c = 64 ∨ c = 65 → gi T c k = gi S c k) : TRN T X Q := by
  obtain ⟨a, b, c, d⟩ := h
  refine ⟨a, b, fun q hq => by rw [e 50 q (by omega)]; exact c q hq, fun w hw => ?_⟩
  obtain ⟨m, m1, m2, m3⟩ := d w hw
  exact ⟨m, m1, by rw [e 65 w (by omega)]; exact m2, fun i hi => by rw [e 64 _ (by omega)]; exact m3 i hi⟩
theorem pa_loop {X : AS} {Q : Nat} {A : Nat → Prop} (hA : ∀ w, A w → mA0 X Q w) {S : AS} (hT : TRN S X Q) (hO : OFF S (mRD S X Q) A) : ∀ (f i : Nat) (T : AS), i ≤ 24 → 24 - i < f → fr (fun c k => c = 67) S T → ∃ T', (∀ J : AS → Option AS, f_Exchange_pointAll_50_L2 J f (nI i) T = J T') ∧ fr (fun c k => c = 67 ∧ i ≤ k) T T' ∧ ∀ w, i ≤ w → w < 24 → gi T' 67 w = pif (A w) (nI (tt (mRD S X Q) A w)) (-1) := by
  intro f
  induction f with
  | zero => intro i T _ h; omega
  | succ f ih =>
    intro i T hi hf hfr
    rcases Nat.lt_or_ge i 24 with q | q
    · have eT : ∀ c k, ¬ c = 67 → gi T c k = gi S c k := fun c k hc => hfr.2.1 c k hc
      have hTT := hT.mv (T := T) (fun c k h => eT c k (by omega))
      have eR : mRD T X Q = mRD S X Q := mRD_congr (fun c k h => eT c k (by omega))
      have hOT : OFF T (mRD T X Q) A := fun w hw => by rw [eR, eT 66 w (by omega)]; exact hO w hw
      have hR := mRG (S := S) (X := X) hT.1 hT.2.2.2
      have hin : vp_in (nI i) 24 := in_nI q (by decide)
      have unf : ∀ J : AS → Option AS, f_Exchange_pointAll_50_L2 J (f + 1) (nI i) T = f_Exchange_pointAll_50_L2 J f (nI (i + 1)) (si T 67 i (pif (A i) (nI (tt (mRD S X Q) A i)) (-1))) := fun J => by
        rw [f_Exchange_pointAll_50_L2, if_neg (show ¬ (24 : Int32) ≤ nI i from nI_ge (b := 24) q (by decide)), chk_pos hin, ix_nI (by omega), hOT i q]
        simp only [nm_k]
        by_cases z : A i
        · have own16 := (hR.1 i (hA i z)).2.1
          have q16 := hT.1
          rw [pif_pos z, pif_pos z, eR, if_neg (nI_ne_m1 (by omega)), cl_point hTT.1 hTT.2.1 hTT.2.2.1 hTT.2.2.2 hA hOT z, bI_eq, chk_pos hin, nI_1, eR, ix_nI (by omega)]
        · rw [pif_neg z, pif_neg z, if_pos rfl, chk_pos hin, nI_1, ix_nI (by omega)]
      obtain ⟨T', a, b, c⟩ := ih (i + 1) (si T 67 i (pif (A i) (nI (tt (mRD S X Q) A i)) (-1))) (by omega) (by omega) (hfr.si rfl)
      refine ⟨T', fun J => by rw [unf]; exact a J, fr.tr (P := fun c k => c = 67 ∧ i ≤ k) ((fr_rf _ T).si ⟨rfl, Nat.le_refl _⟩) (b.mono (fun c k h => ⟨h.1, by omega⟩)), fun w w1 w2 => ?_⟩
      by_cases e : w = i
      · rw [e, b.2.1 67 i (by omega), gi_si, if_pos ⟨rfl, rfl⟩]
      · exact c w (by omega) w2
    · refine ⟨T, fun J => ?_, fr_rf _ _, fun w w1 w2 => by omega⟩
      rw [f_Exchange_pointAll_50_L2, if_pos (show (24 : Int32) ≤ nI i from nI_le (a := 24) q (by omega))]
theorem cl_ring {T : AS} {R : RD} {A0 A : Nat → Prop} {Q : Nat} (hR : RG R A0 Q) (hA : ∀ w, A w → A0 w) (h67 : ∀ w, w < 24 → gi T 67 w = pif (A w) (nI (tt R A w)) (-1)) {w : Nat} (hw : A w) : f_Exchange_isInRing (nI w) T = some (pif (cyc R A w) 1 0, T) := by
  have lt : ∀ i, itr (tt R A) i w < 24 := fun i => (hR.1 _ (hA _ (itr_in hR hA hw i))).1
  have w24 : w < 24 := lt 0
  have key : ∀ (f i : Nat), i ≤ 24 → 24 - i < f → (∀ d, 1 ≤ d → d < i + 1 → ¬ itr (tt R A) d w = w) → f_Exchange_isInRing_L9 (fun a2 S3 => if a2 = nI w then some (1, S3) else some (0, S3)) (nI w) f (nI (itr (tt R A) (i + 1) w)) (nI i) T = some (pif (cyc R A w) 1 0, T) := by
    intro f
    induction f with
    | zero => intro i _ h; omega
    | succ f ih =>
      intro i hi hf hno
      rw [f_Exchange_isInRing_L9]
      have l1 := lt (i + 1)
      by_cases e : itr (tt R A) (i + 1) w = w
      · have hc : cyc R A w := ⟨hw, i + 1, by omega, e⟩
        rw [e, pif_pos hc, if_pos rfl, if_pos rfl]
        split
        · rfl
        · rw [if_neg (nI_ne_m1 (by omega))]
      · have ne : ¬ nI (itr (tt R A) (i + 1) w) = nI w := fun z => e (nI_inj (by omega) (by omega) z)
        rcases Nat.lt_or_ge i 24 with q | q
        · rw [if_neg (show ¬ (24 : Int32) ≤ nI i from nI_ge (b := 24) q (by decide)), if_neg (nI_ne_m1 (by omega)), if_neg ne, chk_pos (in_nI l1 (by decide)), ix_nI (by omega), h67 _ l1, pif_pos (itr_in hR hA hw (i + 1))]
          simp only [nm_k]
          rw [nI_1]
          exact ih (i + 1) (by omega) (by omega) (fun d d1 d2 => by
            by_cases z : d = i + 1
            · rw [z]; exact e
            · exact hno d d1 (by omega))
        · rw [if_pos (show (24 : Int32) ≤ nI i from nI_le (a := 24) q (by omega)), if_neg ne, pif_neg (fun hc => by
            obtain ⟨-, d, d1, d2⟩ := hc
            obtain ⟨e', e1, e2, e3⟩ := itr_small (N := 24) (fun i _ => lt i) d1 d2
            exact hno e' e1 (by omega) e3)]
  unfold f_Exchange_isInRing
  rw [chk_pos (in_nI w24 (by decide)), ix_nI (by omega), h67 w w24, pif_pos hw]
  simp only [nm_k]
  have k0 := key FU 0 (by omega) (by rw [FU_succ]; omega) (fun d d1 d2 => by omega)
  rw [nI_0] at k0
  exact k0
theorem lr_1 {R : RD} {A0 A : Nat → Prop} {Q : Nat} (hQ : Q ≤ 16) (hR : RG R A0 Q) (hA : ∀ w, A w → A0 w) {S : AS} (hO : OFF S R A) (h67 : ∀ w, w < 24 → gi S 67 w = pif (A w) (nI (tt R A w)) (-1)) : ∀ (f i : Nat) (T : AS), i ≤ 24 → 24 - i < f → fr (fun c k => c = 68) S T → ∃ T', (∀ J : AS → Option (Int32 × AS), f_Exchange_leaveInRings_L2 J f (nI i) T = J T') ∧ fr (fun c k => c = 68 ∧ i ≤ k) T T' ∧ ∀ w, i ≤ w → w < 24 → gi T' 68 w = pif (cyc R A w) (nI (pt R A w)) (gi T 68 w) := by
  intro f
  induction f with
  | zero => intro i T _ h; omega
  | succ f ih =>
    intro i T hi hf hfr
    rcases Nat.lt_or_ge i 24 with q | q
    · have eT : ∀ c k, ¬ c = 68 → gi T c k = gi S c k := fun c k hc => hfr.2.1 c k hc
      have t67 : ∀ w, w < 24 → gi T 67 w = pif (A w) (nI (tt R A w)) (-1) := fun w hw => by rw [eT 67 w (by omega)]; exact h67 w hw
      have tO : OFF T R A := fun w hw => by rw [eT 66 w (by omega)]; exact hO w hw
      have hin : vp_in (nI i) 24 := in_nI q (by decide)
      have unf : ∀ J : AS → Option (Int32 × AS), f_Exchange_leaveInRings_L2 J (f + 1) (nI i) T = f_Exchange_leaveInRings_L2 J f (nI (i + 1)) (pif (cyc R A i) (si T 68 i (nI (pt R A i))) T) := fun J => by
        rw [f_Exchange_leaveInRings_L2, if_neg (show ¬ (24 : Int32) ≤ nI i from nI_ge (b := 24) q (by decide)), chk_pos hin, ix_nI (by omega), t67 i q]
        simp only [nm_k]
        by_cases z : A i
        · obtain ⟨s1, s2, s3, s4⟩ := pt_spec hR hA z
          have t24 := (hR.1 _ (hA _ s2)).1
          rw [pif_pos z, if_neg (nI_ne_m1 (by omega)), cl_ring hR hA t67 z, bI_eq]
          by_cases y : cyc R A i
          · rw [pif_pos y, pif_pos y, if_neg ne10, chk_pos hin, t67 i q, pif_pos z, chk_pos (in_nI t24 (by decide)), chk_pos hin, nI_1, ix_nI (by omega), tO _ t24, pif_pos s2, s4]
          · rw [pif_neg y, pif_neg y, if_pos rfl, nI_1]
        · rw [pif_neg z, if_pos rfl, pif_neg (fun y => z y.1), nI_1]
      have fr1 : fr (fun c k => c = 68 ∧ i ≤ k) T (pif (cyc R A i) (si T 68 i (nI (pt R A i))) T) := by
        by_cases y : cyc R A i
        · rw [pif_pos y]; exact (fr_rf _ T).si ⟨rfl, Nat.le_refl _⟩
        · rw [pif_neg y]; exact fr_rf _ T
      have v1 : ∀ w, gi (pif (cyc R A i) (si T 68 i (nI (pt R A i))) T) 68 w = if w = i then pif (cyc R A i) (nI (pt R A i)) (gi T 68 i) else gi T 68 w := fun w => by
        by_cases y : cyc R A i
        · rw [pif_pos y, pif_pos y, gi_si]
          by_cases e : w = i
          · rw [if_pos ⟨rfl, e⟩, if_pos e]
          · rw [if_neg (fun z => e z.2), if_neg e]
        · rw [pif_neg y, pif_neg y]
          by_cases e : w = i
          · rw [if_pos e, e]
          · rw [if_neg e]
      obtain ⟨T', a, b, c⟩ := ih (i + 1) (pif (cyc R A i) (si T 68 i (nI (pt R A i))) T) (by omega) (by omega) (hfr.tr (fr1.mono (fun c k h => h.1)))
      refine ⟨T', fun J => by rw [unf]; exact a J, fr.tr (P := fun c k => c = 68 ∧ i ≤ k) fr1 (b.mono (fun c k h => ⟨h.1, by omega⟩)), fun w w1 w2 => ?_⟩
      by_cases e : w = i
      · rw [e, b.2.1 68 i (by omega), v1, if_pos rfl]
      · rw [c w (by omega) w2, v1, if_neg e]
    · refine ⟨T, fun J => ?_, fr_rf _ _, fun w w1 w2 => by omega⟩
      rw [f_Exchange_leaveInRings_L2, if_pos (show (24 : Int32) ≤ nI i from nI_le (a := 24) q (by omega))]
