/-- a RuleBook's cell -/
def isq (q : Nat) : Prop := q = 4 ∨ q = 41 ∨ ∃ j, q = 99 + 8 * j
theorem ak_add (j i : Nat) (h : i < 8) : aK (99 + 8 * j + i) = bkK i := by
  unfold aK
  rw [if_neg (by omega), show (99 + 8 * j + i - 99) % 8 = i by omega]
theorem ak_q (q i : Nat) (h : isq q) (hi : i < 8) : aK (q + i) = bkK i := by
  rcases h with rfl | rfl | ⟨j, rfl⟩
  · match i, hi with
    | 0, _ => rfl
    | 1, _ => rfl
    | 2, _ => rfl
    | 3, _ => rfl
    | 4, _ => rfl
    | 5, _ => rfl
    | 6, _ => rfl
    | 7, _ => rfl
  · match i, hi with
    | 0, _ => rfl
    | 1, _ => rfl
    | 2, _ => rfl
    | 3, _ => rfl
    | 4, _ => rfl
    | 5, _ => rfl
    | 6, _ => rfl
    | 7, _ => rfl
  · exact ak_add j i hi
theorem bq_lt {S : AS} {q i : Nat} (hi : i < 8) : Sp (some (some q)) S → q + i < S.1 := fun h => by have := h.2.2.1; omega
theorem bq_0 {S : AS} {q : Nat} : Sp (some (some q)) S → gr S q 0 = some (q + 1) := fun h => h.2.2.2.1
theorem bq_1 {S : AS} {q : Nat} : Sp (some (some q)) S → gr S q 1 = some (q + 2) := fun h => h.2.2.2.2.1
theorem bq_2 {S : AS} {q : Nat} : Sp (some (some q)) S → gr S q 2 = some (q + 3) := fun h => h.2.2.2.2.2.1
theorem bq_3 {S : AS} {q : Nat} : Sp (some (some q)) S → gr S q 3 = some (q + 4) := fun h => h.2.2.2.2.2.2.1
theorem bq_5 {S : AS} {q : Nat} : Sp (some (some q)) S → gr S q 5 = some (q + 5) := fun h => h.2.2.2.2.2.2.2.1
theorem bq_6 {S : AS} {q : Nat} : Sp (some (some q)) S → gr S q 6 = some (q + 6) := fun h => h.2.2.2.2.2.2.2.2.1
theorem bq_7 {S : AS} {q : Nat} : Sp (some (some q)) S → gr S q 7 = some (q + 7) := fun h => h.2.2.2.2.2.2.2.2.2
/-- q is a whole RuleBook of S -/
def isBk (S : AS) (q : Nat) : Prop := q = 4 ∨ q = 41 ∨ (∃ j, q = 99 + 8 * j ∧ q < S.1)
theorem isBk.q {S : AS} {q : Nat} (h : isBk S q) : isq q := by
  rcases h with h | h | ⟨j, h, -⟩
  · exact Or.inl h
  · exact Or.inr (Or.inl h)
  · exact Or.inr (Or.inr ⟨j, h⟩)
theorem sp_bk {S : AS} {q : Nat} (h : isBk S q) (hs : Sp (some none) S) : Sp (some (some q)) S := ⟨hs, hs.2.2.1 q h⟩
theorem bk_rules {S : AS} {q : Nat} (hg : gr S 49 15 = some q) (hs : Sp (some none) S) : isBk S q := hs.2.2.2.1 q hg
theorem bk_books {S : AS} {i q : Nat} (hg : gr S 40 i = some q) (hs : Sp (some none) S) : isBk S q := hs.2.2.2.2 i q hg
theorem bk_draft (S : AS) : isBk S 4 := Or.inl rfl
theorem sp_rules {S : AS} {q : Nat} (h : isBk S q) (hs : Sp (some none) S) : Sp (some none) (sr S 49 15 (some q)) := by
  obtain ⟨h1, h2, h3, h4, h5⟩ := hs
  have hne : ∀ (a k : Nat), ¬ (a = 49 ∧ k = 15) → gr (sr S 49 15 (some q)) a k = gr S a k := fun a k hh => by rw [gr_sr, if_neg hh]
  refine ⟨h1, fun t ht => ?_, fun q' hq' => ?_, fun q' hq' => ?_, fun i q' hq' => ?_⟩
  · rw [hne t.1 t.2.1 (by
      intro e
      have : ∀ t ∈ shl, ¬ (t.1 = 49 ∧ t.2.1 = 15) := by decide
      exact this t ht e)]
    exact h2 t ht
  · have hb := h3 q' hq'
    have hq4 : q' ≠ 49 := by rcases hq' with h | h | ⟨j, h, -⟩ <;> omega
    unfold bkw at hb ⊢
    simp only [gr_sr, hq4, false_and, if_false]
    exact hb
  · rw [gr_sr, if_pos ⟨rfl, rfl⟩] at hq'
    cases hq'
    exact h
  · rw [hne 40 i (by omega)] at hq'
    exact h5 i q' hq'
section MISC
variable {α : Type} {G : GX} {M : MD} {b : Option (Option Nat)} {S : AS} {QQ : QT α} {E : State → Prop} {pc : Nat} {lc : List (Option Value)} {st : List Value} {k z : Nat} {X : Option α}
theorem x_topi {e : Int32} {f : Int32 → Option α} (h : ∀ v, V G M QQ E b pc lc (.int v :: st) k z S (f v)) : V G M QQ E b pc lc (.int e :: st) k z S (nm e f) := h e
theorem x_topl {e : Int64} {f : Int64 → Option α} (h : ∀ v, V G M QQ E b pc lc (.long v :: st) k z S (f v)) : V G M QQ E b pc lc (.long e :: st) k z S (nm e f) := h e
theorem x_nmS {S' : AS} {f : AS → Option α} (h : ∀ T, T = S' → V G M QQ E b pc lc st k z T (f T)) : V G M QQ E b pc lc st k z S' (nm S' f) := h S' rfl
theorem x_ite {c : Prop} [Decidable c] {Y : Option α} (h1 : c → V G M QQ E b pc lc st k z S X) (h2 : ¬ c → V G M QQ E b pc lc st k z S Y) : V G M QQ E b pc lc st k z S (if c then X else Y) := by
  by_cases hc : c
  · rw [if_pos hc]; exact h1 hc
  · rw [if_neg hc]; exact h2 hc
/-- fewer locals known -/
def wkn : List (Option Value) → List (Option Value) → Prop
  | [], [] => True
  | none :: r, _ :: r' => wkn r r'
  | some v :: r, w :: r' => w = some v ∧ wkn r r'
  | _, _ => False
theorem wkn_spec : ∀ (lc' lc : List (Option Value)), wkn lc' lc → lc'.length = lc.length ∧ ∀ (i : Nat) (v : Value), lc'[i]? = some (some v) → lc[i]? = some (some v)
  | [], [], _ => ⟨rfl, fun i v h => by simp at h⟩
  | none :: r, w :: r', h => by
    obtain ⟨h1, h2⟩ := wkn_spec r r' h
    refine ⟨by simp [h1], fun i v hi => ?_⟩
    cases i with
    | zero => simp at hi
    | succ i => exact h2 i v (by simpa using hi)
  | some u :: r, w :: r', h => by
    obtain ⟨h1, h2⟩ := wkn_spec r r' h.2
    refine ⟨by simp [h1], fun i v hi => ?_⟩
    cases i with
    | zero => simp at hi; subst hi; simpa using h.1
    | succ i => exact h2 i v (by simpa using hi)
  | [], _ :: _, h => by cases h
  | none :: _, [], h => by cases h
  | some _ :: _, [], h => by cases h
theorem V.wk {lc' : List (Option Value)} (hw : wkn lc' lc) (h : V G M QQ E b pc lc' st k z S X) : V G M QQ E b pc lc st k z S X := h.weak (wkn_spec _ _ hw).1 (wkn_spec _ _ hw).2
theorem q99 {q : Nat} {o : Option Nat} (h : q < 99) : Sp (some o) S → q < S.1 := fun hs => by
  obtain ⟨j, hj⟩ := hs.sh.1
  omega
theorem shx {c f q : Nat} {o : Option Nat} (h : (c, f, q) ∈ shl) : Sp (some o) S → gr S c f = some q := fun hs => hs.sh.2.1 _ h
theorem x_nonnull_ref {off : Int} {tgt q : Nat} (hd : decode M.2.1 pc = .ok (.ifnonnull off, 3)) (ht : (pc : Int) + off = (tgt : Int)) (h : V G M QQ E b tgt lc st k z S X) : V G M QQ E b pc lc (.ref q :: st) k z S X :=
  h.lift id fun r hV p e s m args below meth c H locs ls C hR hS hL => lv_ifnonnull C.1 C.2.1 hd ht (hV p e s m args below meth c H locs ls C hR hS hL)
theorem x_nonnull_null {off : Int} (hd : decode M.2.1 pc = .ok (.ifnonnull off, 3)) (h : V G M QQ E b (pc + 3) lc st k z S X) : V G M QQ E b pc lc (.null :: st) k z S X :=
  h.lift id fun r hV p e s m args below meth c H locs ls C hR hS hL => lv_ifnonnullN C.1 C.2.1 hd (hV p e s m args below meth c H locs ls C hR hS hL)
theorem x_tsw_in {dflt lo hi : Int} {offs : Array Int} {len tgt : Nat} {x c : Int32} {off : Int} (hd : decode M.2.1 pc = .ok (.tableswitch dflt lo hi offs, len)) (hx : x = c) (h1 : ¬ c.toInt < lo) (h2 : ¬ hi < c.toInt) (ho : offs[(c.toInt - lo).toNat]? = some off) (ht : (pc : Int) + off = (tgt : Int)) (h : V G M QQ E b tgt lc st k z S X) : V G M QQ E b pc lc (.int x :: st) k z S X := by
  subst hx
  exact h.lift id fun r hV p e s m args below meth c H locs ls C hR hS hL => lv_tableIn C.1 C.2.1 hd h1 h2 ho ht (hV p e s m args below meth c H locs ls C hR hS hL)
theorem x_tsw_out {dflt lo hi : Int} {offs : Array Int} {len tgt n : Nat} {x : Int32} (hd : decode M.2.1 pc = .ok (.tableswitch dflt lo hi offs, len)) (hn : hi < lo + n) (hall : ∀ j : Nat, j < n → ¬ x = Int32.ofInt (lo + j)) (ht : (pc : Int) + dflt = (tgt : Int)) (h : V G M QQ E b tgt lc st k z S X) : V G M QQ E b pc lc (.int x :: st) k z S X := by
  have ho : x.toInt < lo ∨ hi < x.toInt := by
    by_cases h1 : x.toInt < lo
    · exact Or.inl h1
    · by_cases h2 : hi < x.toInt
      · exact Or.inr h2
      · exfalso
        refine hall (x.toInt - lo).toNat (by omega) ?_
        rw [show lo + (((x.toInt - lo).toNat : Nat) : Int) = x.toInt by omega]
        exact (Int32.ofInt_toInt x).symm
  exact h.lift id fun r hV p e s m args below meth c H locs ls C hR hS hL => lv_tableOut C.1 C.2.1 hd ho ht (hV p e s m args below meth c H locs ls C hR hS hL)
theorem x_lsw {dflt : Int} {ps : Array (Int × Int)} {len tgt : Nat} {x : Int32} {off : Int} (hd : decode M.2.1 pc = .ok (.lookupswitch dflt ps, len)) (hp : (ps.toList.zip (ps.toList.drop 1)).all (fun (a, next) => a.1 < next.1) = true) (ho : Op.lookupswitch.offset ps.toList dflt x.toInt = off) (ht : (pc : Int) + off = (tgt : Int)) (h : V G M QQ E b tgt lc st k z S X) : V G M QQ E b pc lc (.int x :: st) k z S X :=
  h.lift id fun r hV p e s m args below meth c H locs ls C hR hS hL => lv_lookup C.1 C.2.1 hd hp ho ht (hV p e s m args below meth c H locs ls C hR hS hL)
/-- a boolean -/
def isb (v : Int32) : Prop := v = 0 ∨ v = 1
theorem x_zretc {v : Int32} (hd : decode M.2.1 pc = .ok (.ireturn, 1)) (hr : M.2.2.2.1 = some .boolean) (hk : k ≤ M.2.2.2.2.2.cells) (hz : z ≤ M.2.2.2.2.2.slots) : V G M (QM G M iI) E b pc lc [.int v] k z S (chk (isb v) (some (v, S))) := x_chk fun hv => x_ret hd hr (by rcases hv with rfl | rfl <;> rfl) hk hz
variable {b' : Option (Option Nat)} {cc : ByteArray} {nL : Nat} {ret : Option FieldType} {rm : Room} {y : MethodName} {idx n q ci : Nat} {As : List Value}
theorem x_vI {Y : Option (Int32 × AS)} {K : Int32 → AS → Option α} (hd : decode M.2.1 pc = .ok (.invokevirtual idx, 3)) (hmv : MV M.1 idx y cc nL ret n) (hn : As.length = n) (hK : Sp b S → aK q = .inr ci) (hci : (classes[ci]?).map (fun x => x.1) = some y.cls) (hq : Sp b S → q < S.1) (hRm : rm.frames + 1 ≤ M.2.2.2.2.2.frames ∧ 8 + (nL + 11) + rm.locals ≤ M.2.2.2.2.2.locals) (hst : (st.map fun v => v.category).sum ≤ 8) (hcs : k + rm.cells ≤ M.2.2.2.2.2.cells ∧ z + rm.slots ≤ M.2.2.2.2.2.slots) (hbk : ∀ T, Sp b' T → Sp b T) (hcn : Sp b S → Sp b' S ∧ CN G y cc nL ret rm b' iI (.ref q :: As) S Y)
    (h : ∀ v T, V G M QQ E b (pc + 3) lc (.int v :: st) (k + rm.cells) (z + rm.slots) T (K v T)) : V G M QQ E b pc lc (As.reverse ++ .ref q :: st) k z S (bI Y K) := by
  have e : bI Y K = Y.bind (fun r => K r.1 r.2) := by cases Y <;> rfl
  rw [e]
  exact x_callV hd hmv hn hK hci hq hRm hst hcs hbk hcn (fun a _ => h a.1 a.2)
theorem x_vL {Y : Option (Int64 × AS)} {K : Int64 → AS → Option α} (hd : decode M.2.1 pc = .ok (.invokevirtual idx, 3)) (hmv : MV M.1 idx y cc nL ret n) (hn : As.length = n) (hK : Sp b S → aK q = .inr ci) (hci : (classes[ci]?).map (fun x => x.1) = some y.cls) (hq : Sp b S → q < S.1) (hRm : rm.frames + 1 ≤ M.2.2.2.2.2.frames ∧ 8 + (nL + 11) + rm.locals ≤ M.2.2.2.2.2.locals) (hst : (st.map fun v => v.category).sum ≤ 8) (hcs : k + rm.cells ≤ M.2.2.2.2.2.cells ∧ z + rm.slots ≤ M.2.2.2.2.2.slots) (hbk : ∀ T, Sp b' T → Sp b T) (hcn : Sp b S → Sp b' S ∧ CN G y cc nL ret rm b' iL (.ref q :: As) S Y)
    (h : ∀ v T, V G M QQ E b (pc + 3) lc (.long v :: st) (k + rm.cells) (z + rm.slots) T (K v T)) : V G M QQ E b pc lc (As.reverse ++ .ref q :: st) k z S (bL Y K) := by
  have e : bL Y K = Y.bind (fun r => K r.1 r.2) := by cases Y <;> rfl
  rw [e]
  exact x_callV hd hmv hn hK hci hq hRm hst hcs hbk hcn (fun a _ => h a.1 a.2)
theorem x_vR {Y : Option (Nat × AS)} {K : Nat → AS → Option α} (hd : decode M.2.1 pc = .ok (.invokevirtual idx, 3)) (hmv : MV M.1 idx y cc nL ret n) (hn : As.length = n) (hK : Sp b S → aK q = .inr ci) (hci : (classes[ci]?).map (fun x => x.1) = some y.cls) (hq : Sp b S → q < S.1) (hRm : rm.frames + 1 ≤ M.2.2.2.2.2.frames ∧ 8 + (nL + 11) + rm.locals ≤ M.2.2.2.2.2.locals) (hst : (st.map fun v => v.category).sum ≤ 8) (hcs : k + rm.cells ≤ M.2.2.2.2.2.cells ∧ z + rm.slots ≤ M.2.2.2.2.2.slots) (hbk : ∀ T, Sp b' T → Sp b T) (hcn : Sp b S → Sp b' S ∧ CN G y cc nL ret rm b' iR (.ref q :: As) S Y)
    (h : ∀ v T, V G M QQ E b (pc + 3) lc (.ref v :: st) (k + rm.cells) (z + rm.slots) T (K v T)) : V G M QQ E b pc lc (As.reverse ++ .ref q :: st) k z S (bR Y K) := by
  have e : bR Y K = Y.bind (fun r => K r.1 r.2) := by cases Y <;> rfl
  rw [e]
  exact x_callV hd hmv hn hK hci hq hRm hst hcs hbk hcn (fun a _ => h a.1 a.2)
theorem x_vV {Y : Option AS} {K : AS → Option α} (hd : decode M.2.1 pc = .ok (.invokevirtual idx, 3)) (hmv : MV M.1 idx y cc nL ret n) (hn : As.length = n) (hK : Sp b S → aK q = .inr ci) (hci : (classes[ci]?).map (fun x => x.1) = some y.cls) (hq : Sp b S → q < S.1) (hRm : rm.frames + 1 ≤ M.2.2.2.2.2.frames ∧ 8 + (nL + 11) + rm.locals ≤ M.2.2.2.2.2.locals) (hst : (st.map fun v => v.category).sum ≤ 8) (hcs : k + rm.cells ≤ M.2.2.2.2.2.cells ∧ z + rm.slots ≤ M.2.2.2.2.2.slots) (hbk : ∀ T, Sp b' T → Sp b T) (hcn : Sp b S → Sp b' S ∧ CN G y cc nL ret rm b' iV (.ref q :: As) S Y)
    (h : ∀ T, V G M QQ E b (pc + 3) lc st (k + rm.cells) (z + rm.slots) T (K T)) : V G M QQ E b pc lc (As.reverse ++ .ref q :: st) k z S (bV Y K) := by
  have e : bV Y K = Y.bind K := by cases Y <;> rfl
  rw [e]
  exact x_callV hd hmv hn hK hci hq hRm hst hcs hbk hcn (fun a _ => h a)
theorem x_sI {Y : Option (Int32 × AS)} {K : Int32 → AS → Option α} (hd : decode M.2.1 pc = .ok (.invokestatic idx, 3)) (hmv : MS M.1 idx y cc nL ret n) (hn : As.length = n) (hRm : rm.frames + 1 ≤ M.2.2.2.2.2.frames ∧ 8 + (nL + 11) + rm.locals ≤ M.2.2.2.2.2.locals) (hst : (st.map fun v => v.category).sum ≤ 8) (hcs : k + rm.cells ≤ M.2.2.2.2.2.cells ∧ z + rm.slots ≤ M.2.2.2.2.2.slots) (hbk : ∀ T, Sp b' T → Sp b T) (hcn : Sp b S → Sp b' S ∧ CN G y cc nL ret rm b' iI As S Y)
    (h : ∀ v T, V G M QQ E b (pc + 3) lc (.int v :: st) (k + rm.cells) (z + rm.slots) T (K v T)) : V G M QQ E b pc lc (As.reverse ++ st) k z S (bI Y K) := by
  have e : bI Y K = Y.bind (fun r => K r.1 r.2) := by cases Y <;> rfl
  rw [e]
  exact x_callS hd hmv hn hRm hst hcs hbk hcn (fun a _ => h a.1 a.2)
theorem x_sV {Y : Option AS} {K : AS → Option α} (hd : decode M.2.1 pc = .ok (.invokestatic idx, 3)) (hmv : MS M.1 idx y cc nL ret n) (hn : As.length = n) (hRm : rm.frames + 1 ≤ M.2.2.2.2.2.frames ∧ 8 + (nL + 11) + rm.locals ≤ M.2.2.2.2.2.locals) (hst : (st.map fun v => v.category).sum ≤ 8) (hcs : k + rm.cells ≤ M.2.2.2.2.2.cells ∧ z + rm.slots ≤ M.2.2.2.2.2.slots) (hbk : ∀ T, Sp b' T → Sp b T) (hcn : Sp b S → Sp b' S ∧ CN G y cc nL ret rm b' iV As S Y)
    (h : ∀ T, V G M QQ E b (pc + 3) lc st (k + rm.cells) (z + rm.slots) T (K T)) : V G M QQ E b pc lc (As.reverse ++ st) k z S (bV Y K) := by
  have e : bV Y K = Y.bind K := by cases Y <;> rfl
  rw [e]
  exact x_callS hd hmv hn hRm hst hcs hbk hcn (fun a _ => h a)
end MISC
