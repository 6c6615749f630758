/-! the two systems as they are made -/
def RL : List (Nat × Nat × Nat) → Nat → Nat → Option Nat
  | [], _, _ => none
  | (c, k, v) :: l, a, j => if a = c ∧ j = k then some v else RL l a j
def IS (n : Nat) (S : AS) (I : Nat → Nat → Int32) (l : List (Nat × Nat × Nat)) : Prop := S.1 = n ∧ (∀ c k, gi S c k = I c k) ∧ (∀ c k, gr S c k = RL l c k) ∧ (∀ c k, n ≤ c → I c k = 0) ∧ ∀ c k, n ≤ c → RL l c k = none
theorem IS.nw {n : Nat} {S : AS} {I : Nat → Nat → Int32} {l : List (Nat × Nat × Nat)} (h : IS n S I l) : IS (n + 1) (nw S) I l := by
  obtain ⟨a, b, c, d, e⟩ := h
  refine ⟨by show S.1 + 1 = n + 1; rw [a], fun c' k => ?_, fun c' k => ?_, fun c' k h => d c' k (by omega), fun c' k h => e c' k (by omega)⟩
  · rw [gi_nw, a]
    by_cases z : c' = n
    · rw [if_pos z, z, d n k (Nat.le_refl _)]
    · rw [if_neg z]; exact b c' k
  · rw [gr_nw, a]
    by_cases z : c' = n
    · rw [if_pos z, z, e n k (Nat.le_refl _)]
    · rw [if_neg z]; exact c c' k
theorem IS.sr {n : Nat} {S : AS} {I : Nat → Nat → Int32} {l : List (Nat × Nat × Nat)} (h : IS n S I l) (c k v : Nat) (hc : c < n) : IS n (sr S c k (some v)) I ((c, k, v) :: l) := by
  obtain ⟨a, b, c', d, e⟩ := h
  refine ⟨a, fun x y => b x y, fun x y => ?_, d, fun x y h => ?_⟩
  · rw [gr_sr, RL, c']
  · rw [RL, if_neg (by omega)]; exact e x y h
def upI (I : Nat → Nat → Int32) (c k : Nat) (v : Int32) : Nat → Nat → Int32 := fun a j => if a = c ∧ j = k then v else I a j
theorem IS.si {n : Nat} {S : AS} {I : Nat → Nat → Int32} {l : List (Nat × Nat × Nat)} (h : IS n S I l) (c k : Nat) (v : Int32) (hc : c < n) : IS n (si S c k v) (upI I c k v) l := by
  obtain ⟨a, b, c', d, e⟩ := h
  refine ⟨a, fun x y => ?_, fun x y => c' x y, fun x y h => ?_, e⟩
  · rw [gi_si, b]; rfl
  · unfold upI; rw [if_neg (by omega)]; exact d x y h
def upF (I : Nat → Nat → Int32) (c N : Nat) : Nat → Nat → Int32 := fun a j => if a = c ∧ j < N then -1 else I a j
theorem ff_spec {a N : Nat} (hN : N ≤ 1000) : ∀ (f i : Nat) (S : AS), i ≤ N → N - i < f → ∃ T, ffL a N (-1) f (nI i) S = some T ∧ fr (fun c k => c = a ∧ i ≤ k ∧ k < N) S T ∧ ∀ k, i ≤ k → k < N → gi T a k = -1 := by
  intro f
  induction f with
  | zero => intro i S _ h; omega
  | succ f ih =>
    intro i S hi hf
    rw [ffL]
    rcases Nat.lt_or_ge i N with q | q
    · rw [if_neg (show ¬ Int32.ofNat N ≤ nI i from nI_ge q (by omega)), chk_pos (in_nI q (by omega)), nm_k, ix_nI (by omega), nI_1]
      obtain ⟨T, x, y, z⟩ := ih (i + 1) (si S a i (-1)) (by omega) (by omega)
      refine ⟨T, x, fr.tr (P := fun c k => c = a ∧ i ≤ k ∧ k < N) ((fr_rf _ S).si ⟨rfl, Nat.le_refl _, q⟩) (y.mono (fun c k h => ⟨h.1, by omega, h.2.2⟩)), fun k k1 k2 => ?_⟩
      by_cases e : k = i
      · rw [e, y.2.1 a i (by omega), gi_si, if_pos ⟨rfl, rfl⟩]
      · exact z k (by omega) k2
    · exact ⟨S, by rw [if_pos (show Int32.ofNat N ≤ nI i from nI_le q (by omega))], fr_rf _ _, fun k k1 k2 => by omega⟩
theorem IS.fill {n : Nat} {S : AS} {I : Nat → Nat → Int32} {l : List (Nat × Nat × Nat)} (h : IS n S I l) (c N : Nat) (hN : N ≤ 1000) (hc : c < n) : ∃ T, ffL c N (-1) FU 0 S = some T ∧ IS n T (upF I c N) l := by
  obtain ⟨T, x, y, z⟩ := ff_spec (a := c) hN FU 0 S (Nat.zero_le _) (by rw [FU_succ]; omega)
  rw [nI_0] at x
  obtain ⟨a, b, c', d, e⟩ := h
  refine ⟨T, x, by rw [y.1]; exact a, fun p q => ?_, fun p q => by rw [y.2.2.2]; exact c' p q, fun p q hp => ?_, e⟩
  · unfold upF
    by_cases w : p = c ∧ q < N
    · rw [if_pos w, w.1]; exact z q (Nat.zero_le _) w.2
    · rw [if_neg w, y.2.1 p q (fun v => w ⟨v.1, v.2.2⟩)]; exact b p q
  · unfold upF; rw [if_neg (by omega)]; exact d p q hp
set_option maxRecDepth 20000 in
theorem in_Tape {S : AS} {I : Nat → Nat → Int32} {l : List (Nat × Nat × Nat)} (h : IS 2 S I l) : ∃ T, f_Tape_init S = some T ∧ IS 3 T I ((1, 0, 2) :: l) := by
  unfold f_Tape_init
  simp only [nm_k]
  exact ⟨_, rfl, ((h).nw).sr 1 0 2 (by decide)⟩
set_option maxRecDepth 20000 in
theorem in_RuleBook4 {S : AS} {I : Nat → Nat → Int32} {l : List (Nat × Nat × Nat)} (h : IS 5 S I l) : ∃ T, f_RuleBook_init 4 S = some T ∧ IS 12 T I ((4, 7, 11) :: (4, 6, 10) :: (4, 5, 9) :: (4, 3, 8) :: (4, 2, 7) :: (4, 1, 6) :: (4, 0, 5) :: l) := by
  unfold f_RuleBook_init
  simp only [nm_k]
  exact ⟨_, rfl, ((((((((((((((h).nw).sr 4 0 5 (by decide)).nw).sr 4 1 6 (by decide)).nw).sr 4 2 7 (by decide)).nw).sr 4 3 8 (by decide)).nw).sr 4 5 9 (by decide)).nw).sr 4 6 10 (by decide)).nw).sr 4 7 11 (by decide)⟩
set_option maxRecDepth 20000 in
theorem in_TokenRow {S : AS} {I : Nat → Nat → Int32} {l : List (Nat × Nat × Nat)} (h : IS 13 S I l) : ∃ T, f_TokenRow_init S = some T ∧ IS 16 T I ((12, 0, 1) :: (12, 3, 15) :: (12, 2, 14) :: (12, 1, 13) :: l) := by
  unfold f_TokenRow_init
  simp only [nm_k]
  exact ⟨_, rfl, (((((((h).nw).sr 12 1 13 (by decide)).nw).sr 12 2 14 (by decide)).nw).sr 12 3 15 (by decide)).sr 12 0 1 (by decide)⟩
set_option maxRecDepth 20000 in
theorem in_RuleReader {S : AS} {I : Nat → Nat → Int32} {l : List (Nat × Nat × Nat)} (h : IS 4 S I l) : ∃ T, f_RuleReader_init S = some T ∧ IS 16 T (upI I 3 5 (-1)) ((3, 0, 12) :: (12, 0, 1) :: (12, 3, 15) :: (12, 2, 14) :: (12, 1, 13) :: (3, 1, 4) :: (4, 7, 11) :: (4, 6, 10) :: (4, 5, 9) :: (4, 3, 8) :: (4, 2, 7) :: (4, 1, 6) :: (4, 0, 5) :: l) := by
  unfold f_RuleReader_init
  simp only [nm_k]
  have g0 := (h).nw
  obtain ⟨T0, e0, h0⟩ := in_RuleBook4 g0
  rw [e0, bV_eq]
  have g1 := ((h0).sr 3 1 4 (by decide)).nw
  obtain ⟨T1, e1, h1⟩ := in_TokenRow g1
  rw [e1, bV_eq]
  exact ⟨_, rfl, ((h1).sr 3 0 12 (by decide)).si 3 5 (-1) (by decide)⟩
set_option maxRecDepth 20000 in
theorem in_Roll {S : AS} {I : Nat → Nat → Int32} {l : List (Nat × Nat × Nat)} (h : IS 17 S I l) : ∃ T, f_Roll_init S = some T ∧ IS 23 T I ((16, 6, 22) :: (16, 5, 21) :: (16, 4, 20) :: (16, 2, 19) :: (16, 1, 18) :: (16, 0, 17) :: l) := by
  unfold f_Roll_init
  simp only [nm_k]
  exact ⟨_, rfl, ((((((((((((h).nw).sr 16 0 17 (by decide)).nw).sr 16 1 18 (by decide)).nw).sr 16 2 19 (by decide)).nw).sr 16 4 20 (by decide)).nw).sr 16 5 21 (by decide)).nw).sr 16 6 22 (by decide)⟩
set_option maxRecDepth 20000 in
theorem in_PaperBox {S : AS} {I : Nat → Nat → Int32} {l : List (Nat × Nat × Nat)} (h : IS 24 S I l) : ∃ T, f_PaperBox_init S = some T ∧ IS 32 T I ((23, 7, 31) :: (23, 6, 30) :: (23, 5, 29) :: (23, 4, 28) :: (23, 3, 27) :: (23, 2, 26) :: (23, 1, 25) :: (23, 0, 24) :: l) := by
  unfold f_PaperBox_init
  simp only [nm_k]
  exact ⟨_, rfl, ((((((((((((((((h).nw).sr 23 0 24 (by decide)).nw).sr 23 1 25 (by decide)).nw).sr 23 2 26 (by decide)).nw).sr 23 3 27 (by decide)).nw).sr 23 4 28 (by decide)).nw).sr 23 5 29 (by decide)).nw).sr 23 6 30 (by decide)).nw).sr 23 7 31 (by decide)⟩
set_option maxRecDepth 20000 in
theorem in_Gazette {S : AS} {I : Nat → Nat → Int32} {l : List (Nat × Nat × Nat)} (h : IS 33 S I l) : ∃ T, f_Gazette_init S = some T ∧ IS 38 T I ((32, 5, 37) :: (32, 3, 36) :: (32, 2, 35) :: (32, 1, 34) :: (32, 0, 33) :: l) := by
  unfold f_Gazette_init
  simp only [nm_k]
  exact ⟨_, rfl, ((((((((((h).nw).sr 32 0 33 (by decide)).nw).sr 32 1 34 (by decide)).nw).sr 32 2 35 (by decide)).nw).sr 32 3 36 (by decide)).nw).sr 32 5 37 (by decide)⟩
set_option maxRecDepth 20000 in
theorem in_RuleBook41 {S : AS} {I : Nat → Nat → Int32} {l : List (Nat × Nat × Nat)} (h : IS 42 S I l) : ∃ T, f_RuleBook_init 41 S = some T ∧ IS 49 T I ((41, 7, 48) :: (41, 6, 47) :: (41, 5, 46) :: (41, 3, 45) :: (41, 2, 44) :: (41, 1, 43) :: (41, 0, 42) :: l) := by
  unfold f_RuleBook_init
  simp only [nm_k]
  exact ⟨_, rfl, ((((((((((((((h).nw).sr 41 0 42 (by decide)).nw).sr 41 1 43 (by decide)).nw).sr 41 2 44 (by decide)).nw).sr 41 3 45 (by decide)).nw).sr 41 5 46 (by decide)).nw).sr 41 6 47 (by decide)).nw).sr 41 7 48 (by decide)⟩
set_option maxRecDepth 20000 in
theorem in_Reigns {S : AS} {I : Nat → Nat → Int32} {l : List (Nat × Nat × Nat)} (h : IS 39 S I l) : ∃ T, f_Reigns_init S = some T ∧ IS 49 T I ((38, 2, 41) :: (41, 7, 48) :: (41, 6, 47) :: (41, 5, 46) :: (41, 3, 45) :: (41, 2, 44) :: (41, 1, 43) :: (41, 0, 42) :: (38, 1, 40) :: (38, 0, 39) :: l) := by
  unfold f_Reigns_init
  simp only [nm_k]
  have g0 := (((((h).nw).sr 38 0 39 (by decide)).nw).sr 38 1 40 (by decide)).nw
  obtain ⟨T0, e0, h0⟩ := in_RuleBook41 g0
  rw [e0, bV_eq]
  exact ⟨_, rfl, (h0).sr 38 2 41 (by decide)⟩
set_option maxRecDepth 20000 in
theorem in_Course {S : AS} {I : Nat → Nat → Int32} {l : List (Nat × Nat × Nat)} (h : IS 50 S I l) (hl : RL l 38 2 = some 41) : ∃ T, f_Course_init S = some T ∧ IS 60 T (upI I 49 16 (-1)) ((49, 15, 41) :: (49, 3, 38) :: (49, 2, 32) :: (49, 1, 23) :: (49, 0, 16) :: (49, 13, 59) :: (49, 12, 58) :: (49, 11, 57) :: (49, 10, 56) :: (49, 9, 55) :: (49, 8, 54) :: (49, 7, 53) :: (49, 6, 52) :: (49, 5, 51) :: (49, 4, 50) :: l) := by
  unfold f_Course_init
  simp only [nm_k]
  have g0 := ((((((((((((((((((((((((h).nw).sr 49 4 50 (by decide)).nw).sr 49 5 51 (by decide)).nw).sr 49 6 52 (by decide)).nw).sr 49 7 53 (by decide)).nw).sr 49 8 54 (by decide)).nw).sr 49 9 55 (by decide)).nw).sr 49 10 56 (by decide)).nw).sr 49 11 57 (by decide)).nw).sr 49 12 58 (by decide)).nw).sr 49 13 59 (by decide)).sr 49 0 16 (by decide)).sr 49 1 23 (by decide)).sr 49 2 32 (by decide)).sr 49 3 38 (by decide)
  rw [chk_pos ((g0.2.2.1 38 2).trans (by simp [RL, hl]))]
  exact ⟨_, rfl, ((g0).sr 49 15 41 (by decide)).si 49 16 (-1) (by decide)⟩
set_option maxRecDepth 20000 in
theorem in_Ends {S : AS} {I : Nat → Nat → Int32} {l : List (Nat × Nat × Nat)} (h : IS 61 S I l) : ∃ T, f_Ends_init S = some T ∧ IS 63 T (upF I 62 161) ((60, 0, 16) :: (60, 2, 62) :: (60, 1, 61) :: l) := by
  unfold f_Ends_init
  simp only [nm_k]
  have g0 := (((((h).nw).sr 60 1 61 (by decide)).nw).sr 60 2 62 (by decide)).sr 60 0 16 (by decide)
  rw [chk_pos ((g0.2.2.1 60 2).trans (by rfl))]
  have g1 := g0
  obtain ⟨T1, e1, h1⟩ := (g1).fill 62 161 (by decide) (by decide)
  rw [show ff_62 (-1) _ = some T1 from e1, bV_eq]
  exact ⟨_, rfl, h1⟩
set_option maxRecDepth 20000 in
theorem in_Exchange {S : AS} {I : Nat → Nat → Int32} {l : List (Nat × Nat × Nat)} (h : IS 64 S I l) : ∃ T, f_Exchange_init S = some T ∧ IS 69 T (upF I 68 24) ((63, 4, 68) :: (63, 3, 67) :: (63, 2, 66) :: (63, 1, 65) :: (63, 0, 64) :: l) := by
  unfold f_Exchange_init
  simp only [nm_k]
  have g0 := ((((((((((h).nw).sr 63 0 64 (by decide)).nw).sr 63 1 65 (by decide)).nw).sr 63 2 66 (by decide)).nw).sr 63 3 67 (by decide)).nw).sr 63 4 68 (by decide)
  rw [chk_pos ((g0.2.2.1 63 4).trans (by rfl))]
  have g1 := g0
  obtain ⟨T1, e1, h1⟩ := (g1).fill 68 24 (by decide) (by decide)
  rw [show ff_68 (-1) _ = some T1 from e1, bV_eq]
  exact ⟨_, rfl, h1⟩
set_option maxRecDepth 20000 in
theorem in_Chan {S : AS} {I : Nat → Nat → Int32} {l : List (Nat × Nat × Nat)} (h : IS 1 S I l) : ∃ T, f_Chan_init S = some T ∧ IS 70 T (upI (upF (upF (upI (upI I 3 5 (-1)) 49 16 (-1)) 62 161) 68 24) 0 11 (-1)) ((0, 9, 69) :: (0, 8, 63) :: (63, 4, 68) :: (63, 3, 67) :: (63, 2, 66) :: (63, 1, 65) :: (63, 0, 64) :: (0, 7, 60) :: (60, 0, 16) :: (60, 2, 62) :: (60, 1, 61) :: (0, 6, 49) :: (49, 15, 41) :: (49, 3, 38) :: (49, 2, 32) :: (49, 1, 23) :: (49, 0, 16) :: (49, 13, 59) :: (49, 12, 58) :: (49, 11, 57) :: (49, 10, 56) :: (49, 9, 55) :: (49, 8, 54) :: (49, 7, 53) :: (49, 6, 52) :: (49, 5, 51) :: (49, 4, 50) :: (0, 5, 38) :: (38, 2, 41) :: (41, 7, 48) :: (41, 6, 47) :: (41, 5, 46) :: (41, 3, 45) :: (41, 2, 44) :: (41, 1, 43) :: (41, 0, 42) :: (38, 1, 40) :: (38, 0, 39) :: (0, 4, 32) :: (32, 5, 37) :: (32, 3, 36) :: (32, 2, 35) :: (32, 1, 34) :: (32, 0, 33) :: (0, 3, 23) :: (23, 7, 31) :: (23, 6, 30) :: (23, 5, 29) :: (23, 4, 28) :: (23, 3, 27) :: (23, 2, 26) :: (23, 1, 25) :: (23, 0, 24) :: (0, 2, 16) :: (16, 6, 22) :: (16, 5, 21) :: (16, 4, 20) :: (16, 2, 19) :: (16, 1, 18) :: (16, 0, 17) :: (0, 1, 3) :: (3, 0, 12) :: (12, 0, 1) :: (12, 3, 15) :: (12, 2, 14) :: (12, 1, 13) :: (3, 1, 4) :: (4, 7, 11) :: (4, 6, 10) :: (4, 5, 9) :: (4, 3, 8) :: (4, 2, 7) :: (4, 1, 6) :: (4, 0, 5) :: (0, 0, 1) :: (1, 0, 2) :: l) := by
  unfold f_Chan_init
  simp only [nm_k]
  have g0 := (h).nw
  obtain ⟨T0, e0, h0⟩ := in_Tape g0
  rw [e0, bV_eq]
  have g1 := ((h0).sr 0 0 1 (by decide)).nw
  rw [chk_pos ((g1.2.2.1 0 0).trans (by rfl))]
  have g2 := g1
  obtain ⟨T2, e2, h2⟩ := in_RuleReader g2
  rw [e2, bV_eq]
  have g3 := ((h2).sr 0 1 3 (by decide)).nw
  obtain ⟨T3, e3, h3⟩ := in_Roll g3
  rw [e3, bV_eq]
  have g4 := ((h3).sr 0 2 16 (by decide)).nw
  obtain ⟨T4, e4, h4⟩ := in_PaperBox g4
  rw [e4, bV_eq]
  have g5 := ((h4).sr 0 3 23 (by decide)).nw
  obtain ⟨T5, e5, h5⟩ := in_Gazette g5
  rw [e5, bV_eq]
  have g6 := ((h5).sr 0 4 32 (by decide)).nw
  obtain ⟨T6, e6, h6⟩ := in_Reigns g6
  rw [e6, bV_eq]
  have g7 := ((h6).sr 0 5 38 (by decide)).nw
  rw [chk_pos ((g7.2.2.1 0 2).trans (by rfl))]
  have g8 := g7
  rw [chk_pos ((g8.2.2.1 0 3).trans (by rfl))]
  have g9 := g8
  rw [chk_pos ((g9.2.2.1 0 4).trans (by rfl))]
  have g10 := g9
  rw [chk_pos ((g10.2.2.1 0 5).trans (by rfl))]
  have g11 := g10
  obtain ⟨T11, e11, h11⟩ := in_Course g11 (by rfl)
  rw [e11, bV_eq]
  have g12 := ((h11).sr 0 6 49 (by decide)).nw
  rw [chk_pos ((g12.2.2.1 0 2).trans (by rfl))]
  have g13 := g12
  obtain ⟨T13, e13, h13⟩ := in_Ends g13
  rw [e13, bV_eq]
  have g14 := ((h13).sr 0 7 60 (by decide)).nw
  obtain ⟨T14, e14, h14⟩ := in_Exchange g14
  rw [e14, bV_eq]
  exact ⟨_, rfl, ((((h14).sr 0 8 63 (by decide)).nw).sr 0 9 69 (by decide)).si 0 11 (-1) (by decide)⟩
set_option maxRecDepth 20000 in
theorem in_Md {S : AS} {I : Nat → Nat → Int32} {l : List (Nat × Nat × Nat)} (h : IS 71 S I l) : ∃ T, f_Md_init S = some T ∧ IS 99 T (upI (upI (upI (upI (upI (upI (upI (upI (upI (upI (upI (upI (upI (upI (upI I 70 1 0) 70 2 0) 70 4 0) 70 6 0) 70 11 0) 70 14 (-1)) 70 15 0) 70 21 0) 70 22 0) 70 23 0) 70 24 0) 70 25 (-1)) 70 35 0) 70 41 0) 70 42 0) ((70, 40, 98) :: (70, 39, 97) :: (70, 38, 96) :: (70, 37, 95) :: (70, 36, 94) :: (70, 34, 93) :: (70, 33, 92) :: (70, 32, 91) :: (70, 31, 90) :: (70, 30, 89) :: (70, 29, 88) :: (70, 28, 87) :: (70, 27, 86) :: (70, 26, 85) :: (70, 20, 84) :: (70, 19, 83) :: (70, 18, 82) :: (70, 17, 81) :: (70, 16, 80) :: (70, 13, 79) :: (70, 12, 78) :: (70, 10, 77) :: (70, 9, 76) :: (70, 8, 75) :: (70, 7, 74) :: (70, 5, 73) :: (70, 3, 72) :: (70, 0, 71) :: l) := by
  unfold f_Md_init
  simp only [nm_k]
  exact ⟨_, rfl, (((((((((((((((((((((((((((((((((((((((((((((((((((((((((((((((((((((((h).nw).sr 70 0 71 (by decide)).si 70 1 0 (by decide)).si 70 2 0 (by decide)).nw).sr 70 3 72 (by decide)).si 70 4 0 (by decide)).nw).sr 70 5 73 (by decide)).si 70 6 0 (by decide)).nw).sr 70 7 74 (by decide)).nw).sr 70 8 75 (by decide)).nw).sr 70 9 76 (by decide)).nw).sr 70 10 77 (by decide)).si 70 11 0 (by decide)).nw).sr 70 12 78 (by decide)).nw).sr 70 13 79 (by decide)).si 70 14 (-1) (by decide)).si 70 15 0 (by decide)).nw).sr 70 16 80 (by decide)).nw).sr 70 17 81 (by decide)).nw).sr 70 18 82 (by decide)).nw).sr 70 19 83 (by decide)).nw).sr 70 20 84 (by decide)).si 70 21 0 (by decide)).si 70 22 0 (by decide)).si 70 23 0 (by decide)).si 70 24 0 (by decide)).si 70 25 (-1) (by decide)).nw).sr 70 26 85 (by decide)).nw).sr 70 27 86 (by decide)).nw).sr 70 28 87 (by decide)).nw).sr 70 29 88 (by decide)).nw).sr 70 30 89 (by decide)).nw).sr 70 31 90 (by decide)).nw).sr 70 32 91 (by decide)).nw).sr 70 33 92 (by decide)).nw).sr 70 34 93 (by decide)).si 70 35 0 (by decide)).nw).sr 70 36 94 (by decide)).nw).sr 70 37 95 (by decide)).nw).sr 70 38 96 (by decide)).nw).sr 70 39 97 (by decide)).nw).sr 70 40 98 (by decide)).si 70 41 0 (by decide)).si 70 42 0 (by decide)⟩
theorem upI_z {I : Nat → Nat → Int32} {c k a j : Nat} (h : I a j = 0) : upI I c k 0 a j = 0 := by
  unfold upI
  rw [h]; exact ite_self _
theorem upI_n {I : Nat → Nat → Int32} {c k a j : Nat} {v x : Int32} (hn : ¬ (a = c ∧ j = k)) (h : I a j = x) : upI I c k v a j = x := by
  unfold upI
  rw [if_neg hn]; exact h
theorem upF_n {I : Nat → Nat → Int32} {c N a j : Nat} {x : Int32} (hn : ¬ (a = c ∧ j < N)) (h : I a j = x) : upF I c N a j = x := by
  unfold upF
  rw [if_neg hn]; exact h
theorem upF_y {I : Nat → Nat → Int32} {c N j : Nat} (h : j < N) : upF I c N c j = -1 := by
  unfold upF
  rw [if_pos ⟨rfl, h⟩]
def EXc (c k : Nat) : Prop := (c = 0 ∧ k = 11) ∨ (c = 3 ∧ k = 5) ∨ (c = 49 ∧ k = 16) ∨ (c = 62 ∧ k < 161) ∨ (c = 68 ∧ k < 24) ∨ (c = 70 ∧ (k = 14 ∨ k = 25))
set_option maxRecDepth 20000 in
theorem init_ok : ∃ S1 S2, f_Chan_init (nw S00) = some S1 ∧ f_Md_init (nw S1) = some S2 ∧ INV 0 S2 := by
  have h0 : IS 0 S00 (fun _ _ => 0) [] := ⟨rfl, fun _ _ => rfl, fun _ _ => rfl, fun _ _ _ => rfl, fun _ _ _ => rfl⟩
  obtain ⟨S1, a1, a2⟩ := in_Chan h0.nw
  obtain ⟨S, b1, b2⟩ := in_Md a2.nw
  refine ⟨S1, S, a1, b1, ?_⟩
  obtain ⟨i1, i2, i3, -, -⟩ := b2
  have e0 : ∀ c k, ¬ EXc c k → gi S c k = 0 := fun c k h => by
    unfold EXc at h
    rw [i2]
    exact upI_z <| upI_z <| upI_z <| upI_n (by omega) <| upI_z <| upI_z <| upI_z <| upI_z <| upI_z <| upI_n (by omega) <| upI_z <| upI_z <| upI_z <| upI_z <| upI_z <| upI_n (by omega) <| upF_n (by omega) <| upF_n (by omega) <| upI_n (by omega) <| upI_n (by omega) rfl
  have x11 : gi S 0 11 = -1 := by rw [i2]; rfl
  have x35 : gi S 3 5 = -1 := by rw [i2]; rfl
  have x49 : gi S 49 16 = -1 := by rw [i2]; rfl
  have x14 : gi S 70 14 = -1 := by rw [i2]; rfl
  have x25 : gi S 70 25 = -1 := by rw [i2]; rfl
  have x62 : ∀ k, k < 161 → gi S 62 k = -1 := fun k hk => by
    rw [i2]
    exact upI_n (by omega) <| upI_n (by omega) <| upI_n (by omega) <| upI_n (by omega) <| upI_n (by omega) <| upI_n (by omega) <| upI_n (by omega) <| upI_n (by omega) <| upI_n (by omega) <| upI_n (by omega) <| upI_n (by omega) <| upI_n (by omega) <| upI_n (by omega) <| upI_n (by omega) <| upI_n (by omega) <| upI_n (by omega) <| upF_n (by omega) <| upF_y hk
  have x68 : ∀ k, k < 24 → gi S 68 k = -1 := fun k hk => by
    rw [i2]
    exact upI_n (by omega) <| upI_n (by omega) <| upI_n (by omega) <| upI_n (by omega) <| upI_n (by omega) <| upI_n (by omega) <| upI_n (by omega) <| upI_n (by omega) <| upI_n (by omega) <| upI_n (by omega) <| upI_n (by omega) <| upI_n (by omega) <| upI_n (by omega) <| upI_n (by omega) <| upI_n (by omega) <| upI_n (by omega) <| upF_y hk
  have z : ∀ c k, c < 3 ∨ (4 ≤ c ∧ c ≤ 48) ∨ (50 ≤ c ∧ c ≤ 61) ∨ (63 ≤ c ∧ c ≤ 67) ∨ c = 69 ∨ 71 ≤ c → ¬ (c = 0 ∧ k = 11) → gi S c k = 0 := fun c k h h' => e0 c k (by unfold EXc; omega)
  have z70 : ∀ k, ¬ k = 14 → ¬ k = 25 → gi S 70 k = 0 := fun k h h' => e0 70 k (by unfold EXc; omega)
  have pP : nP S = 0 := by unfold nP; rw [z70 2 (by omega) (by omega)]; rfl
  have pQ : nQ S = 0 := by unfold nQ; rw [z70 4 (by omega) (by omega)]; rfl
  have pN : nN S = 0 := by unfold nN; rw [z70 6 (by omega) (by omega)]; rfl
  have pK : nK S = 0 := by unfold nK; rw [z70 11 (by omega) (by omega)]; rfl
  have pR : nR S = 0 := by unfold nR; rw [z70 15 (by omega) (by omega)]; rfl
  have hsh : Sh S := by
    have r40 : ∀ i, gr S 40 i = none := fun i => by
      rw [i3]
      simp only [RL, show ∀ c : Nat, (40 = c) = (c = 40) from fun c => propext eq_comm, Nat.reduceEqDiff, false_and, if_false]
    refine ⟨⟨0, i1⟩, fun t ht => ?_, fun q hq => ?_, fun q hq => ?_, fun i q hq => ?_⟩
    · rw [i3]
      revert t
      decide +kernel
    · have hq' : q = 4 ∨ q = 41 := by
        rcases hq with e | e | ⟨j, e, e2⟩
        · exact Or.inl e
        · exact Or.inr e
        · omega
      rcases hq' with e | e
      · subst e
        refine ⟨Or.inl rfl, by omega, ?_, ?_, ?_, ?_, ?_, ?_, ?_⟩ <;> rw [i3] <;> rfl
      · subst e
        refine ⟨Or.inr (Or.inl rfl), by omega, ?_, ?_, ?_, ?_, ?_, ?_, ?_⟩ <;> rw [i3] <;> rfl
    · have hq2 : some 41 = some q := (i3 49 15).symm.trans hq
      cases hq2
      exact Or.inr (Or.inl rfl)
    · rw [r40] at hq; cases hq
  have n0 : (0 : Int32) = nI 0 := rfl
  refine ⟨hsh, ⟨0, by omega, by rw [z 1 1 (by omega) (by omega)]; rfl, by rw [z70 1 (by omega) (by omega)]; rfl, fun i => by rw [z 2 i (by omega) (by omega), z 71 i (by omega) (by omega)]; exact ⟨rfl, 0, by omega, rfl⟩⟩, ⟨by omega, by omega, by rw [pP, z70 2 (by omega) (by omega)]; rfl, by rw [pP, z 16 3 (by omega) (by omega)]; rfl, by rw [pQ, z70 4 (by omega) (by omega)]; rfl, by rw [pQ, z 16 7 (by omega) (by omega)]; rfl, fun i hi => by omega, fun i hi => by omega⟩, ⟨by omega, by rw [pN, z70 6 (by omega) (by omega)]; rfl, by rw [pN, z 32 4 (by omega) (by omega)]; rfl, fun k k1 k2 => by omega⟩, ⟨0, fun _ => 0, by omega, by rw [z 32 6 (by omega) (by omega)]; rfl, fun i hi => by omega, fun i j _ h => by omega, fun k k1 k2 => by omega⟩, ⟨by omega, by rw [pK, z70 11 (by omega) (by omega)]; rfl, by rw [pK, z 23 8 (by omega) (by omega)]; rfl, fun j hj => by omega⟩, ⟨by rw [x11, x14], Or.inl x14⟩, ⟨by rw [e0 3 4 (by unfold EXc; omega), z70 24 (by omega) (by omega)], by rw [x35, x25]⟩, ⟨0, by omega, by rw [z 0 10 (by omega) (by omega)]; rfl, by rw [z70 35 (by omega) (by omega)]; rfl, fun i hi => by omega⟩, fun w hw => ⟨0, by omega, by rw [z 65 w (by omega) (by omega)]; rfl, by rw [z 95 w (by omega) (by omega)]; rfl, fun i hi => by omega⟩, ⟨Or.inl (z70 41 (by omega) (by omega)), ⟨0, by omega, by rw [z70 42 (by omega) (by omega)]; rfl⟩, fun w hw => by rw [x68 w hw, if_pos (Or.inl (z70 41 (by omega) (by omega)))]⟩, ⟨0, Nat.le_refl _, by rw [z 16 8 (by omega) (by omega)]; rfl⟩, ⟨by omega, by rw [pR, z70 15 (by omega) (by omega)]; rfl, by rw [pR, z 38 3 (by omega) (by omega)]; rfl, z 41 4 (by omega) (by omega), by rw [i1, pR], fun r hr => by omega⟩, ⟨0, by omega, by rw [z 16 8 (by omega) (by omega)]; rfl, Or.inl x49, fun y => ?_, fun n hn => ⟨Or.inl (x62 n (by omega)), fun y => ?_⟩⟩⟩
  · rw [x49] at y; exact absurd y (by decide)
  · rw [x62 n (by omega)] at y; exact absurd y (by decide)
