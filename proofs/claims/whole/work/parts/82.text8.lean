theorem isb_c0 {α : Type} {k : Option α} : chk (isb 0) k = k := chk_pos isb_0
def ARs (S : AS) (n c : Nat) (p1 p2 : Int32) : AS := si (si (si (si (si S 5 n p1) 6 n p2) 7 n (nI c)) 8 n (nI c)) 4 4 (nI (n + 1))
theorem AR_gi (S : AS) (n c : Nat) (p1 p2 : Int32) (d i : Nat) (h : ¬ (5 ≤ d ∧ d ≤ 8 ∧ i = n)) (h2 : ¬ (d = 4 ∧ i = 4)) : gi (ARs S n c p1 p2) d i = gi S d i := by
  unfold ARs
  rw [gi_si, if_neg h2, gi_si, if_neg (by omega), gi_si, if_neg (by omega), gi_si, if_neg (by omega), gi_si, if_neg (by omega)]
theorem AR_5 (S : AS) (n c : Nat) (p1 p2 : Int32) : gi (ARs S n c p1 p2) 5 n = p1 ∧ gi (ARs S n c p1 p2) 6 n = p2 ∧ gi (ARs S n c p1 p2) 7 n = nI c ∧ gi (ARs S n c p1 p2) 8 n = nI c ∧ gi (ARs S n c p1 p2) 4 4 = nI (n + 1) := by
  unfold ARs
  refine ⟨?_, ?_, ?_, ?_, ?_⟩
  · rw [gi_si, if_neg (by omega), gi_si, if_neg (by omega), gi_si, if_neg (by omega), gi_si, if_neg (by omega), gi_si, if_pos ⟨rfl, rfl⟩]
  · rw [gi_si, if_neg (by omega), gi_si, if_neg (by omega), gi_si, if_neg (by omega), gi_si, if_pos ⟨rfl, rfl⟩]
  · rw [gi_si, if_neg (by omega), gi_si, if_neg (by omega), gi_si, if_pos ⟨rfl, rfl⟩]
  · rw [gi_si, if_neg (by omega), gi_si, if_pos ⟨rfl, rfl⟩]
  · rw [gi_si, if_pos ⟨rfl, rfl⟩]
theorem AR_fr {S T : AS} (n c : Nat) (p1 p2 : Int32) (h : fr pCo S T) : fr pCo S (ARs T n c p1 p2) := ((((h.si (by unfold pCo; omega)).si (by unfold pCo; omega)).si (by unfold pCo; omega)).si (by unfold pCo; omega)).si (by unfold pCo; omega)
theorem rl_one {b : Nat → Nat} {t N : Nat} (hN : NT b t N) {S U : AS} {k a n c m : Nat} (hn : n < 16) (hm : m ≤ 3 * (n + c)) (hC : CR S b t N k) (hk : k < N) (hU : MR U b t a) (hat : a ≤ t) (hak : scn isBl b t a = tkp b t k) (h24 : gi U 70 24 = 0) (h4 : gi S 4 4 = nI n) (h8 : gi S 4 8 = nI c) (h21 : gi U 70 21 = nI m) (h7 : 7 * c ≤ tkp b t k) :
    (∃ S' U', f_RuleReader_readRule S = some (0, S') ∧ f_Md_rule U = some U' ∧ BAD2 S U S' U' b t) ∨
    (∃ S' U' a' q l k', f_RuleReader_readRule S = some (1, S') ∧ f_Md_rule U = some U' ∧ CR S' b t N k' ∧ k < k' ∧ fr pCo S S' ∧ fr pMo U U' ∧ MR U' b t a' ∧ a' ≤ t ∧ scn isBl b t a' = tkp b t k' ∧ gi U' 70 24 = 0 ∧ gi S' 4 4 = nI (n + 1) ∧ gi S' 4 8 = nI (c + l) ∧ gi U' 70 21 = nI (m + 3 + 3 * l) ∧ gi U' 84 (m + 2) = nI l ∧ RUL S' U' n m q l c ∧ FRM S U S' U' n c m ∧ 7 * (c + l) ≤ tkp b t k') := by
  have hp := hN.2.2.2 k hk
  have h400 := hN.1
  have hNt := hN.2.1
  have hen := en_gt (b := b) hp
  have e1 : scn isBl b t (en b t (tkp b t k)) = tkp b t (k + 1) := (tkp_s hp).symm
  have hlt := tkp_lt hp
  have hpt1 := tkp_le b t (k + 1)
  have hid := tkp_idem b t k
  have c19 := cd_le (b := b) (t := t) (p := tkp b t k)
  have c19' := cd_le (b := b) (t := t) (p := tkp b t (k + 1))
  obtain ⟨s1, hC1⟩ := adv_spec hC hk
  have ag : ∀ d i, ¬ (d = 3 ∧ (i = 2 ∨ i = 3)) → gi (adv S b t (k + 1)) d i = gi S d i := fun d i h => adv_gi _ _ _ _ _ _ h
  have fA : fr pCo S (adv S b t (k + 1)) := adv_fr b t _ (fr_rf _ S) (by unfold pCo; omega) (by unfold pCo; omega)
  have hV : MR (si U 70 22 (nI (tkp b t k))) b t (tkp b t k) := hU.at (by omega)
  have hE : MR (si U 70 22 (nI (en b t (tkp b t k)))) b t (en b t (tkp b t k)) := hU.at (by omega)
  have u1 : ∀ x d i, ¬ (d = 70 ∧ i = 22) → gi (si U 70 22 x) d i = gi U d i := fun x d i h => by rw [gi_si, if_neg h]
  have fU : ∀ x, fr pMo U (si U 70 22 x) := fun x => (fr_rf _ U).si (by unfold pMo; omega)
  -- the words of the reference, one behind the other
  have q7 := ps_spec hU (w := 7) (by decide) px_7 (L := 4) rfl
  have q8 := ps_spec hV (w := 8) (by decide) px_8 (L := 4) rfl
  have q9 := ps_spec hV (w := 9) (by decide) px_9 (L := 4) rfl
  have q10 := ps_spec hV (w := 10) (by decide) px_10 (L := 3) rfl
  have q11 := ps_spec hV (w := 11) (by decide) px_11 (L := 3) rfl
  rw [hak] at q7
  rw [hid, si_si] at q8 q9 q10 q11
  have n7 : ¬ cd b t (tkp b t k) = 7 → f_Md_passes 2003399784 4 U = some (0, si U 70 22 (nI (tkp b t k))) := fun z => by rw [q7, if_neg z, if_neg z]
  have n8 : ¬ cd b t (tkp b t k) = 8 → f_Md_passes 1752132965 4 (si U 70 22 (nI (tkp b t k))) = some (0, si U 70 22 (nI (tkp b t k))) := fun z => by rw [q8, if_neg z, if_neg z]
  have n9 : ¬ cd b t (tkp b t k) = 9 → f_Md_passes 1751738216 4 (si U 70 22 (nI (tkp b t k))) = some (0, si U 70 22 (nI (tkp b t k))) := fun z => by rw [q9, if_neg z, if_neg z]
  have n10 : ¬ cd b t (tkp b t k) = 10 → f_Md_passes 7106423 3 (si U 70 22 (nI (tkp b t k))) = some (0, si U 70 22 (nI (tkp b t k))) := fun z => by rw [q10, if_neg z, if_neg z]
  have n11 : ¬ cd b t (tkp b t k) = 11 → f_Md_passes 6447474 3 (si U 70 22 (nI (tkp b t k))) = some (0, si U 70 22 (nI (tkp b t k))) := fun z => by rw [q11, if_neg z, if_neg z]
  have y7 : cd b t (tkp b t k) = 7 → f_Md_passes 2003399784 4 U = some (1, si U 70 22 (nI (en b t (tkp b t k)))) := fun z => by rw [q7, if_pos z, if_pos z]
  have y8 : cd b t (tkp b t k) = 8 → f_Md_passes 1752132965 4 (si U 70 22 (nI (tkp b t k))) = some (1, si U 70 22 (nI (en b t (tkp b t k)))) := fun z => by rw [q8, if_pos z, if_pos z]
  have y9 : cd b t (tkp b t k) = 9 → f_Md_passes 1751738216 4 (si U 70 22 (nI (tkp b t k))) = some (1, si U 70 22 (nI (en b t (tkp b t k)))) := fun z => by rw [q9, if_pos z, if_pos z]
  have y10 : cd b t (tkp b t k) = 10 → f_Md_passes 7106423 3 (si U 70 22 (nI (tkp b t k))) = some (1, si U 70 22 (nI (en b t (tkp b t k)))) := fun z => by rw [q10, if_pos z, if_pos z]
  have y11 : cd b t (tkp b t k) = 11 → f_Md_passes 6447474 3 (si U 70 22 (nI (tkp b t k))) = some (1, si U 70 22 (nI (en b t (tkp b t k)))) := fun z => by rw [q11, if_pos z, if_pos z]
  have full : f_RuleBook_isFull 4 S = some (0, S) := by
    unfold f_RuleBook_isFull
    rw [h4, if_pos (show nI n < 16 from nI_lt (b := 16) hn (by decide))]
  have g33 : gi S 3 3 = nI (cd b t (tkp b t k)) := hC.2.2.2
  -- a rule that was added, and its tail
  have go : ∀ (q : Nat) (a5 : Int32) (T V : AS) (k2 a2 : Nat), q ≤ 4 → CR T b t N k2 → k ≤ k2 → fr pCo S T → (∀ d i, 5 ≤ d → d ≤ 8 → ¬ i = n → gi T d i = gi S d i) → (∀ d i, 9 ≤ d → d ≤ 11 → gi T d i = gi S d i) → gi T 4 4 = nI (n + 1) → gi T 4 8 = nI c → gi T 5 n = nI (q + 7) → (¬ q = 1 → ¬ q = 4 → gi T 6 n = a5) → gi T 7 n = nI c → gi T 8 n = nI c → V = si U 70 22 (nI a2) → a2 ≤ t → scn isBl b t a2 = tkp b t k2 → (q = 0 → bnd a5 7) → (q = 2 ∨ q = 3 → bnd a5 6) → f_RuleReader_readRule S = KC q T → f_Md_rule U = T171 (nI m) (nI q) a5 V →
      (∃ S' U', f_RuleReader_readRule S = some (0, S') ∧ f_Md_rule U = some U' ∧ BAD2 S U S' U' b t) ∨
      (∃ S' U' a' q l k', f_RuleReader_readRule S = some (1, S') ∧ f_Md_rule U = some U' ∧ CR S' b t N k' ∧ k < k' ∧ fr pCo S S' ∧ fr pMo U U' ∧ MR U' b t a' ∧ a' ≤ t ∧ scn isBl b t a' = tkp b t k' ∧ gi U' 70 24 = 0 ∧ gi S' 4 4 = nI (n + 1) ∧ gi S' 4 8 = nI (c + l) ∧ gi U' 70 21 = nI (m + 3 + 3 * l) ∧ gi U' 84 (m + 2) = nI l ∧ RUL S' U' n m q l c ∧ FRM S U S' U' n c m ∧ 7 * (c + l) ≤ tkp b t k') := by
    intro q a5 T V k2 a2 hq hCT hkk fT t58 t911 t44 t48 t5 t6 t7 t8 eV ha2 hs2 b0 b2 ec er
    subst eV
    have hge : tkp b t k ≤ tkp b t k2 := by
      have mono : ∀ d, tkp b t k ≤ tkp b t (k + d) := fun d => by
        induction d with
        | zero => exact Nat.le_refl _
        | succ d ih =>
          have : tkp b t (k + d) ≤ tkp b t (k + d + 1) := by
            by_cases z : tkp b t (k + d) < t
            · exact Nat.le_of_lt (tkp_lt z)
            · rw [tkp, if_neg z]; exact Nat.le_refl _
          exact Nat.le_trans ih this
      have := mono (k2 - k)
      rw [show k + (k2 - k) = k2 by omega] at this
      exact this
    rcases rl_tail hN hn hm hq hCT (hU.at (show a2 ≤ 1000 by omega)) ha2 hs2 (by rw [u1 _ 70 24 (by omega)]; exact h24) t44 t48 (by rw [u1 _ 70 21 (by omega)]; exact h21) t5 t6 t7 t8 b0 b2 (by omega) with ⟨S', U', x1, x2, f, x, y1, y2, y3, y4⟩ | ⟨S', U', a', l, k', x1, x2, x3, x4, x5, x6, x7, x8, x9, x10, x11, x12, x13, x14, x15, x16, x17⟩
    · exact Or.inl ⟨S', U', by rw [ec]; exact x1, by rw [er]; exact x2, f, x, (pCo_r fT).tr y1, y2, (pMo_r (fU _)).tr y3, y4⟩
    · refine Or.inr ⟨S', U', a', q, l, k', by rw [ec]; exact x1, by rw [er]; exact x2, x3, by omega, fT.tr x5, (fU _).tr x6, x7, x8, x9, x10, x11, x12, x13, x14, x15, ⟨fun d i d1 d2 d3 => by rw [x16.1 d i d1 d2 d3]; exact t58 d i d1 d2 d3, fun d i d1 d2 d3 => by rw [x16.2.1 d i d1 d2 d3]; exact t911 d i d1 d2, fun y hy => by rw [x16.2.2 y hy]; exact u1 _ 84 y (by omega)⟩, x17⟩
  -- a fault at the token kk, at once
  have bad : ∀ (T : AS) (kk : Nat), CR T b t N kk → fr pCr S T → tkp b t kk ≤ 400 → ∃ S', f_RuleReader_failWith 1 T = some (0, S') ∧ fr pCr S S' ∧ FC S' 1 (tkp b t kk) := fun T kk hT fT _ => by
    obtain ⟨S', x1, x2, x3⟩ := fail_spec hT 1
    exact ⟨S', x1, fT.tr x2, x3⟩
  have stop : ∀ (V : AS) (a2 : Nat) (a4 a5 : Int32) (x : Nat), MR V b t a2 → fr pMr U V → gi V 70 24 = 0 → ∃ U', f_Md_blame 1 (nI x) V = some U' ∧ T171 (nI m) a4 a5 U' = some U' ∧ fr pMr U U' ∧ FM U' 1 x ∧ MR U' b t a2 := fun V a2 a4 a5 x hM fV v24 => by
    refine ⟨si (si V 70 24 1) 70 25 (nI x), by rw [blame_spec, v24, if_pos (by decide)], ?_, (fV.si (by unfold pMr; omega)).si (by unfold pMr; omega), ⟨by rw [gi_si, if_neg (by omega), gi_si, if_pos ⟨rfl, rfl⟩], by rw [gi_si, if_pos ⟨rfl, rfl⟩]⟩, hM.mv (fun d i hc => by rw [gi_si, if_neg (by omega), gi_si, if_neg (by omega)])⟩
    have z : gi (si (si V 70 24 1) 70 25 (nI x)) 70 24 = 1 := by rw [gi_si, if_neg (by omega), gi_si, if_pos ⟨rfl, rfl⟩]
    unfold T171
    rw [z, if_neg (by decide)]
  by_cases h11 : cd b t (tkp b t k) = 11
  · -- bar
    have hadd := addR_spec hn h4 h8 11 0
    obtain ⟨r5, r6, r7, r8, r44⟩ := AR_5 S n c 11 0
    have hCA : CR (ARs S n c 11 0) b t N k := hC.mv (fun d i hc => AR_gi S n c 11 0 d i (by omega) (by omega))
    obtain ⟨w1, hCB⟩ := adv_spec hCA hk
    have ag2 : ∀ d i, ¬ (d = 3 ∧ (i = 2 ∨ i = 3)) → gi (adv (ARs S n c 11 0) b t (k + 1)) d i = gi (ARs S n c 11 0) d i := fun d i h => adv_gi _ _ _ _ _ _ h
    refine go 4 0 (adv (ARs S n c 11 0) b t (k + 1)) _ (k + 1) (en b t (tkp b t k)) (by omega) hCB (by omega) (adv_fr b t _ (AR_fr n c 11 0 (fr_rf _ S)) (by unfold pCo; omega) (by unfold pCo; omega)) (fun d i d1 d2 d3 => by rw [ag2 d i (by omega)]; exact AR_gi S n c 11 0 d i (by omega) (by omega)) (fun d i d1 d2 => by rw [ag2 d i (by omega)]; exact AR_gi S n c 11 0 d i (by omega) (by omega)) (by rw [ag2 4 4 (by omega)]; exact r44) (by rw [ag2 4 8 (by omega), AR_gi S n c 11 0 4 8 (by omega) (by omega)]; exact h8) (by rw [ag2 5 n (by omega)]; exact r5) (fun _ z => absurd rfl z) (by rw [ag2 7 n (by omega)]; exact r7) (by rw [ag2 8 n (by omega)]; exact r8) rfl hen.2 e1 (fun z => by omega) (fun z => by omega) ?_ ?_
    · unfold f_RuleReader_readRule KC
      simp only [nm_k]
      rw [full, bI_eq, if_pos rfl, g33, if_pos (show nI (cd b t (tkp b t k)) = 11 by rw [h11]; rfl), hadd, bV_eq, show si (si (si (si (si S 5 n 11) 6 n 0) 7 n (nI c)) 8 n (nI c)) 4 4 (nI (n + 1)) = ARs S n c 11 0 from rfl, w1, bV_eq, if_pos trivial]
    · rw [rule_unf, n7 (by omega), bI_eq, if_pos rfl, n8 (by omega), bI_eq, if_pos rfl, n9 (by omega), bI_eq, if_pos rfl, n10 (by omega), bI_eq, if_pos rfl, y11 h11, bI_eq, if_neg ne10, h21]
      rfl
  have cls1 : f_RuleReader_readRule S = bI (f_RuleReader_readKey S) fun r4 S3 => if r4 = 0 then some (0, S3) else (bI (f_RuleReader_readCondition S3) fun r7 S6 => if r7 = 0 then some (0, S6) else (bI (f_RuleReader_pass 17 S6) fun r9 S8 => if r9 = 0 then some (0, S8) else some (1, S8))) := by
    unfold f_RuleReader_readRule
    simp only [nm_k]
    rw [full, bI_eq, if_pos rfl, g33, if_neg (show ¬ nI (cd b t (tkp b t k)) = 11 from fun z => h11 (nI_inj (b := 11) (by omega) (by decide) z))]
  have kc : ∀ q T, ¬ q = 4 → f_RuleReader_readKey S = some (1, T) → f_RuleReader_readRule S = KC q T := fun q T hq h => by
    rw [cls1, h, bI_eq, if_neg ne10]
    unfold KC
    rw [if_neg hq]
  have hkey : ∀ (w : Nat), cd b t (tkp b t k) = w → 7 ≤ w → w ≤ 10 → f_RuleReader_readKey S = if nI w = 8 then (bV (f_RuleBook_addRule 4 8 0 (adv S b t (k + 1))) fun S15 => some (1, S15)) else (if nI w = 7 then (if gi (adv S b t (k + 1)) 3 3 = 14 then (chk (vp_in (gi (adv S b t (k + 1)) 3 2) 401) (bV (f_RuleBook_addRule 4 (nI w) (gi (adv S b t (k + 1)) 15 (ix (gi (adv S b t (k + 1)) 3 2))) (adv S b t (k + 1))) fun S10 => bV (f_RuleReader_advance S10) fun S11 => some (1, S11))) else bI (f_RuleReader_failWith 1 (adv S b t (k + 1))) fun r14 S13 => chk (isb r14) (some (r14, S13))) else (if gi (adv S b t (k + 1)) 3 3 ≤ 6 then (bV (f_RuleBook_addRule 4 (nI w) (gi (adv S b t (k + 1)) 3 3) (adv S b t (k + 1))) fun S10 => bV (f_RuleReader_advance S10) fun S11 => some (1, S11)) else bI (f_RuleReader_failWith 1 (adv S b t (k + 1))) fun r14 S13 => chk (isb r14) (some (r14, S13)))) := fun w hw w7 w10 => by
    unfold f_RuleReader_readKey
    simp only [nm_k]
    rw [g33, hw, if_neg (show ¬ nI w < 7 from nI_nlt (b := 7) w7 (by omega)), if_pos (show nI w ≤ 10 from nI_le (b := 10) w10 (by decide)), s1, bV_eq]
    by_cases z8 : nI w = 8
    · rw [if_pos z8, if_pos z8]
    · rw [if_neg z8, if_neg z8]
      by_cases z7 : nI w = 7
      · simp only [if_pos z7]
      · simp only [if_neg z7]
  have g331 : gi (adv S b t (k + 1)) 3 3 = nI (cd b t (tkp b t (k + 1))) := hC1.2.2.2
  have h41 : gi (adv S b t (k + 1)) 4 4 = nI n := by rw [ag 4 4 (by omega)]; exact h4
  have h81 : gi (adv S b t (k + 1)) 4 8 = nI c := by rw [ag 4 8 (by omega)]; exact h8
  have adds : ∀ p1 p2 : Int32, f_RuleBook_addRule 4 p1 p2 (adv S b t (k + 1)) = some (ARs (adv S b t (k + 1)) n c p1 p2) := fun p1 p2 => addR_spec hn h41 h81 p1 p2
  have hCA : ∀ p1 p2 : Int32, CR (ARs (adv S b t (k + 1)) n c p1 p2) b t N (k + 1) := fun p1 p2 => hC1.mv (fun d i hc => AR_gi _ n c p1 p2 d i (by omega) (by omega))
  have ag3 : ∀ (p1 p2 : Int32) (d i : Nat), ¬ (d = 3 ∧ (i = 2 ∨ i = 3)) → ¬ (5 ≤ d ∧ d ≤ 8 ∧ i = n) → ¬ (d = 4 ∧ i = 4) → gi (ARs (adv S b t (k + 1)) n c p1 p2) d i = gi S d i := fun p1 p2 d i x1 x2 x3 => by rw [AR_gi _ n c p1 p2 d i x2 x3]; exact ag d i x1
  have fAR : ∀ p1 p2 : Int32, fr pCo S (ARs (adv S b t (k + 1)) n c p1 p2) := fun p1 p2 => AR_fr n c p1 p2 fA
  by_cases h8c : cd b t (tkp b t k) = 8
  · -- home
    obtain ⟨r5, r6, r7, r8, r44⟩ := AR_5 (adv S b t (k + 1)) n c 8 0
    refine go 1 0 (ARs (adv S b t (k + 1)) n c 8 0) _ (k + 1) (en b t (tkp b t k)) (by omega) (hCA 8 0) (by omega) (fAR 8 0) (fun d i d1 d2 d3 => ag3 8 0 d i (by omega) (by omega) (by omega)) (fun d i d1 d2 => ag3 8 0 d i (by omega) (by omega) (by omega)) r44 (by rw [ag3 8 0 4 8 (by omega) (by omega) (by omega)]; exact h8) r5 (fun z _ => absurd rfl z) r7 r8 rfl hen.2 e1 (fun z => by omega) (fun z => by omega) (kc 1 _ (by omega) ?_) ?_
    · rw [hkey 8 h8c (by omega) (by omega), if_pos (by decide), adds, bV_eq]
    · rw [rule_unf, n7 (by omega), bI_eq, if_pos rfl, y8 h8c, bI_eq, if_neg ne10, h21]
      rfl
  by_cases h7c : cd b t (tkp b t k) = 7
  · -- with
    have hws := ws_spec hE
    rw [e1, si_si] at hws
    have hV1 : MR (si U 70 22 (nI (tkp b t (k + 1)))) b t (tkp b t (k + 1)) := hU.at (by omega)
    have v24 : gi (si U 70 22 (nI (tkp b t (k + 1)))) 70 24 = 0 := by rw [u1 _ 70 24 (by omega)]; exact h24
    have v22 : gi (si U 70 22 (nI (tkp b t (k + 1)))) 70 22 = nI (tkp b t (k + 1)) := by rw [gi_si, if_pos ⟨rfl, rfl⟩]
    have hb1 := (hV1.2.2.1 (tkp b t (k + 1))).2
    have e71 := (hV1.2.2.1 (tkp b t (k + 1))).1
    have ref7 : f_Md_rule U = if nI (wle b t (tkp b t (k + 1))) = 1 then (chk (vp_in (nI (tkp b t (k + 1))) 400) (if nI (b (tkp b t (k + 1))) ≤ 104 then (T55 (nI m) (si U 70 22 (nI (tkp b t (k + 1))))) else (bV (f_Md_blame 1 (nI (tkp b t (k + 1))) (si U 70 22 (nI (tkp b t (k + 1))))) fun S43 => T55 (nI m) S43))) else (bV (f_Md_blame 1 (nI (tkp b t (k + 1))) (si U 70 22 (nI (tkp b t (k + 1))))) fun S43 => T55 (nI m) S43) := by
      rw [rule_unf, y7 h7c, bI_eq, if_neg ne10, hws, bI_eq, v22, h21]
      by_cases z : tkp b t (k + 1) < 400
      · rw [ix_nI (by omega), e71]
      · have w0 : wle b t (tkp b t (k + 1)) = 0 := wle_0 (Or.inl (by omega))
        rw [w0, if_neg (by decide), if_neg (by decide)]
    by_cases h14 : cd b t (tkp b t (k + 1)) = 14
    · obtain ⟨y1, y2⟩ := cd_14.mp h14
      have hk1 := cd_end hN hC1.2.1 (by omega)
      have hp1 := hN.2.2.2 (k + 1) hk1
      have hL : isL (b (tkp b t (k + 1))) = true := by
        by_cases z : isL (b (tkp b t (k + 1))) = true
        · exact z
        · have := wle_0 (t := t) (Or.inr z); omega
      have hL' := (isL_iff _).mp hL
      have hen1 : en b t (tkp b t (k + 1)) = tkp b t (k + 1) + 1 := by
        unfold en
        rw [if_pos hL]
        have := (scn_spec isL b t (tkp b t (k + 1))).1
        unfold wle at y1
        omega
      have hvl : vl b t (tkp b t (k + 1)) = nI (b (tkp b t (k + 1))) - 97 := by
        unfold vl
        rw [if_pos hL, if_pos ⟨y1, y2⟩]
      have e2 : scn isBl b t (tkp b t (k + 1) + 1) = tkp b t (k + 2) := by rw [← hen1]; exact (tkp_s hp1).symm
      obtain ⟨r5, r6, r7, r8, r44⟩ := AR_5 (adv S b t (k + 1)) n c 7 (vl b t (tkp b t (k + 1)))
      obtain ⟨w1, hCB⟩ := adv_spec (hCA 7 (vl b t (tkp b t (k + 1)))) hk1
      have ag4 : ∀ d i, ¬ (d = 3 ∧ (i = 2 ∨ i = 3)) → gi (adv (ARs (adv S b t (k + 1)) n c 7 (vl b t (tkp b t (k + 1)))) b t (k + 1 + 1)) d i = gi (ARs (adv S b t (k + 1)) n c 7 (vl b t (tkp b t (k + 1)))) d i := fun d i h => adv_gi _ _ _ _ _ _ h
      refine go 0 (vl b t (tkp b t (k + 1))) (adv (ARs (adv S b t (k + 1)) n c 7 (vl b t (tkp b t (k + 1)))) b t (k + 1 + 1)) _ (k + 2) (tkp b t (k + 1) + 1) (by omega) hCB (by omega) (adv_fr b t _ (fAR 7 _) (by unfold pCo; omega) (by unfold pCo; omega)) (fun d i d1 d2 d3 => by rw [ag4 d i (by omega)]; exact ag3 7 _ d i (by omega) (by omega) (by omega)) (fun d i d1 d2 => by rw [ag4 d i (by omega)]; exact ag3 7 _ d i (by omega) (by omega) (by omega)) (by rw [ag4 4 4 (by omega)]; exact r44) (by rw [ag4 4 8 (by omega), ag3 7 _ 4 8 (by omega) (by omega) (by omega)]; exact h8) (by rw [ag4 5 n (by omega)]; exact r5) (fun _ _ => by rw [ag4 6 n (by omega)]; exact r6) (by rw [ag4 7 n (by omega)]; exact r7) (by rw [ag4 8 n (by omega)]; exact r8) rfl (by omega) e2 (fun _ => ⟨b (tkp b t (k + 1)) - 97, by omega, by rw [hvl]; exact pk_sub (a := b (tkp b t (k + 1))) (b := 97) (by omega)⟩) (fun z => by omega) (kc 0 _ (by omega) ?_) ?_
      · rw [hkey 7 h7c (by omega) (by omega), if_neg (by decide), if_pos (by decide), g331, h14, if_pos (show nI 14 = 14 from rfl), show gi (adv S b t (k + 1)) 3 2 = nI (k + 1) from hC1.2.2.1, chk_pos (in_nI (by omega) (by decide)), ix_nI (by omega), hC1.1.2.2.2 (k + 1) hk1, show nI 7 = 7 from rfl, adds, bV_eq, w1, bV_eq]
      · rw [ref7, y1, if_pos (by decide), chk_pos (in_nI (by omega) (by decide)), if_pos (show nI (b (tkp b t (k + 1))) ≤ 104 from nI_le (b := 104) y2 (by decide))]
        unfold T55
        rw [v24, if_pos rfl, v22, chk_pos (in_nI (by omega) (by decide)), ix_nI (by omega), e71, nI_1, si_si, hvl]
        rfl
    · left
      obtain ⟨S', x1, x2, x3⟩ := bad _ (k + 1) hC1 (pCo_r fA) (by omega)
      obtain ⟨U', z1, -, z3, z4, z5⟩ := stop _ (tkp b t (k + 1)) 0 0 (tkp b t (k + 1)) hV1 (pMo_r (fU _)) v24
      have z24 : gi U' 70 24 = 1 := z4.1
      have hz : T55 (nI m) U' = some (si U' 70 22 (nI (tkp b t (k + 1) + 1))) := by
        unfold T55
        have y24 : gi (si U' 70 22 (nI (tkp b t (k + 1) + 1))) 70 24 = 1 := by rw [gi_si, if_neg (by omega)]; exact z24
        rw [z24, if_neg ne10, z5.2.2.2.1, nI_1]
        unfold T171
        rw [y24, if_neg (by decide)]
      refine ⟨S', si U' 70 22 (nI (tkp b t (k + 1) + 1)), ?_, ?_, 1, tkp b t (k + 1), x2, x3, z3.si (by unfold pMr; omega), ⟨by rw [gi_si, if_neg (by omega)]; exact z4.1, by rw [gi_si, if_neg (by omega)]; exact z4.2⟩, Or.inl rfl, _, z5.at (show tkp b t (k + 1) + 1 ≤ 1000 by omega)⟩
      · rw [cls1, hkey 7 h7c (by omega) (by omega), if_neg (by decide), if_pos (by decide), g331, if_neg (show ¬ nI (cd b t (tkp b t (k + 1))) = 14 from fun z => h14 (nI_inj (b := 14) (by omega) (by decide) z)), x1, bI_eq, isb_c0, bI_eq, if_pos rfl]
      · rw [ref7, z1, bV_eq, hz]
        by_cases y : wle b t (tkp b t (k + 1)) = 1
        · have hp1 : tkp b t (k + 1) < t := by
            by_cases v : tkp b t (k + 1) < t
            · exact v
            · have := wle_0 (b := b) (Or.inl v); omega
          rw [y, if_pos (by decide), chk_pos (in_nI (by omega) (by decide)), if_neg (show ¬ nI (b (tkp b t (k + 1))) ≤ 104 from nI_ge (a := 104) (by
            rcases Nat.lt_or_ge 104 (b (tkp b t (k + 1))) with v | v
            · exact v
            · exact absurd (cd_14.mpr ⟨y, v⟩) h14) (by omega))]
        · rw [if_neg (show ¬ nI (wle b t (tkp b t (k + 1))) = 1 from fun z => y (nI_inj (b := 1) (by
            have h1 := (scn_spec isL b t (tkp b t (k + 1))).2.1 hpt1
            unfold wle; omega) (by decide) z))]
  by_cases h910 : cd b t (tkp b t k) = 9 ∨ cd b t (tkp b t k) = 10
  · -- high, low
    have hsub := subj_spec hE
    rw [e1, si_si] at hsub
    have hV1 : MR (si U 70 22 (nI (tkp b t (k + 1)))) b t (tkp b t (k + 1)) := hU.at (by omega)
    have v24 : gi (si U 70 22 (nI (tkp b t (k + 1)))) 70 24 = 0 := by rw [u1 _ 70 24 (by omega)]; exact h24
    have ref9 : f_Md_rule U = bI (f_Md_subject (si U 70 22 (nI (en b t (tkp b t k))))) fun r34 S33 => T171 (nI m) (nI (cd b t (tkp b t k) - 7)) r34 S33 := by
      rw [rule_unf, n7 h7c, bI_eq, if_pos rfl, n8 h8c, bI_eq, if_pos rfl]
      rcases h910 with z | z
      · rw [y9 z, bI_eq, if_neg ne10, h21, z]; rfl
      · rw [n9 (by omega), bI_eq, if_pos rfl, y10 z, bI_eq, if_neg ne10, h21, z]; rfl
    have kcls := hkey (cd b t (tkp b t k)) rfl (by omega) (by omega)
    rw [if_neg (show ¬ nI (cd b t (tkp b t k)) = 8 from fun z => h8c (nI_inj (b := 8) (by omega) (by decide) z)), if_neg (show ¬ nI (cd b t (tkp b t k)) = 7 from fun z => h7c (nI_inj (b := 7) (by omega) (by decide) z)), g331] at kcls
    by_cases h6 : cd b t (tkp b t (k + 1)) ≤ 6
    · rw [if_pos h6] at hsub
      have hk1 := cd_end hN hC1.2.1 (by omega)
      have hp1 := hN.2.2.2 (k + 1) hk1
      have hen1 := en_gt (b := b) hp1
      have e2 : scn isBl b t (en b t (tkp b t (k + 1))) = tkp b t (k + 2) := (tkp_s hp1).symm
      rw [if_pos (show nI (cd b t (tkp b t (k + 1))) ≤ 6 from nI_le (b := 6) h6 (by decide))] at kcls
      obtain ⟨r5, r6, r7, r8, r44⟩ := AR_5 (adv S b t (k + 1)) n c (nI (cd b t (tkp b t k))) (nI (cd b t (tkp b t (k + 1))))
      obtain ⟨w1, hCB⟩ := adv_spec (hCA (nI (cd b t (tkp b t k))) (nI (cd b t (tkp b t (k + 1))))) hk1
      have ag4 : ∀ d i, ¬ (d = 3 ∧ (i = 2 ∨ i = 3)) → gi (adv (ARs (adv S b t (k + 1)) n c (nI (cd b t (tkp b t k))) (nI (cd b t (tkp b t (k + 1))))) b t (k + 1 + 1)) d i = gi (ARs (adv S b t (k + 1)) n c (nI (cd b t (tkp b t k))) (nI (cd b t (tkp b t (k + 1))))) d i := fun d i h => adv_gi _ _ _ _ _ _ h
      refine go (cd b t (tkp b t k) - 7) (nI (cd b t (tkp b t (k + 1)))) (adv (ARs (adv S b t (k + 1)) n c (nI (cd b t (tkp b t k))) (nI (cd b t (tkp b t (k + 1))))) b t (k + 1 + 1)) _ (k + 2) (en b t (tkp b t (k + 1))) (by omega) hCB (by omega) (adv_fr b t _ (fAR _ _) (by unfold pCo; omega) (by unfold pCo; omega)) (fun d i d1 d2 d3 => by rw [ag4 d i (by omega)]; exact ag3 _ _ d i (by omega) (by omega) (by omega)) (fun d i d1 d2 => by rw [ag4 d i (by omega)]; exact ag3 _ _ d i (by omega) (by omega) (by omega)) (by rw [ag4 4 4 (by omega)]; exact r44) (by rw [ag4 4 8 (by omega), ag3 _ _ 4 8 (by omega) (by omega) (by omega)]; exact h8) (by rw [ag4 5 n (by omega), r5, show cd b t (tkp b t k) - 7 + 7 = cd b t (tkp b t k) by omega]) (fun _ _ => by rw [ag4 6 n (by omega)]; exact r6) (by rw [ag4 7 n (by omega)]; exact r7) (by rw [ag4 8 n (by omega)]; exact r8) rfl hen1.2 e2 (fun z => by omega) (fun _ => ⟨_, h6, rfl⟩) (kc _ _ (by omega) ?_) ?_
      · rw [kcls, adds, bV_eq, w1, bV_eq]
      · rw [ref9, hsub, bI_eq]
    · left
      rw [if_neg h6] at hsub
      rw [if_neg (show ¬ nI (cd b t (tkp b t (k + 1))) ≤ 6 from nI_ge (a := 6) (by omega) (by omega))] at kcls
      obtain ⟨S', x1, x2, x3⟩ := bad _ (k + 1) hC1 (pCo_r fA) (by omega)
      obtain ⟨U', z1, z2, z3, z4, z5⟩ := stop _ (tkp b t (k + 1)) (nI (cd b t (tkp b t k) - 7)) 0 (tkp b t (k + 1)) hV1 (pMo_r (fU _)) v24
      rw [si_si, z1, bV_eq] at hsub
      refine ⟨S', U', ?_, by rw [ref9, hsub, bI_eq]; exact z2, 1, tkp b t (k + 1), x2, x3, z3, z4, Or.inl rfl, _, z5⟩
      rw [cls1, kcls, x1, bI_eq, isb_c0, bI_eq, if_pos rfl]
  · -- no rule begins so
    left
    obtain ⟨S', x1, x2, x3⟩ := bad S k hC (fr_rf _ S) (by omega)
    have v24 : gi (si U 70 22 (nI (tkp b t k))) 70 24 = 0 := by rw [u1 _ 70 24 (by omega)]; exact h24
    obtain ⟨U', z1, z2, z3, z4, z5⟩ := stop _ (tkp b t k) 0 0 (tkp b t k) hV (pMo_r (fU _)) v24
    refine ⟨S', U', ?_, ?_, 1, tkp b t k, x2, x3, z3, z4, Or.inl rfl, _, z5⟩
    · rw [cls1]
      unfold f_RuleReader_readKey
      simp only [nm_k]
      rw [g33]
      by_cases y : cd b t (tkp b t k) < 7
      · rw [if_pos (show nI (cd b t (tkp b t k)) < 7 from nI_lt (b := 7) y (by decide)), x1, bI_eq, isb_c0, bI_eq, if_pos rfl]
      · rw [if_neg (show ¬ nI (cd b t (tkp b t k)) < 7 from nI_nlt (b := 7) (by omega) (by omega)), if_neg (show ¬ nI (cd b t (tkp b t k)) ≤ 10 from nI_ge (a := 10) (by omega) (by omega)), x1, bI_eq, isb_c0, bI_eq, if_pos rfl]
    · have v22 : gi (si U 70 22 (nI (tkp b t k))) 70 22 = nI (tkp b t k) := by rw [gi_si, if_pos ⟨rfl, rfl⟩]
      rw [rule_unf, n7 h7c, bI_eq, if_pos rfl, n8 h8c, bI_eq, if_pos rfl, n9 (by omega), bI_eq, if_pos rfl, n10 (by omega), bI_eq, if_pos rfl, n11 h11, bI_eq, if_pos rfl, v22, z1, bV_eq, h21]
      exact z2
