/-! locals by place -/
theorem cv_cat (G : GX) (v : Value) : (cv G v).category = v.category := by cases v <;> rfl
def LR (G : GX) (ls : Array Slot) (nL : Nat) (lc : List (Option Value)) : Prop := ls.size = nL ∧ lc.length = nL ∧ lv_wf ls ∧ ∀ (i : Nat) (v : Value), lc[i]? = some (some v) → ls[i]? = some (Slot.val (cv G v))
def lrl (G : GX) (lc : List (Option Value)) : List (Nat × Value) := (List.range lc.length).filterMap (fun j => (lc[j]?.join).map (fun v => (j, cv G v)))
theorem lrl_mem {G : GX} {lc : List (Option Value)} {q : Nat × Value} : q ∈ lrl G lc ↔ ∃ v, lc[q.1]? = some (some v) ∧ q.2 = cv G v := by
  unfold lrl
  rw [List.mem_filterMap]
  constructor
  · rintro ⟨j, -, h⟩
    cases hj : lc[j]? with
    | none => rw [hj] at h; simp at h
    | some o =>
      cases o with
      | none => rw [hj] at h; simp at h
      | some v =>
        rw [hj] at h
        simp at h
        subst h
        exact ⟨v, hj, rfl⟩
  · rintro ⟨v, h1, h2⟩
    refine ⟨q.1, List.mem_range.mpr (List.getElem?_eq_some_iff.mp h1).1, ?_⟩
    rw [h1]
    simp [← h2]
theorem LR.has {G : GX} {ls : Array Slot} {nL : Nat} {lc : List (Option Value)} (h : LR G ls nL lc) : lv_has ls nL (lrl G lc) := by
  refine ⟨h.1, h.2.2.1, fun q hq => ?_⟩
  obtain ⟨v, h1, h2⟩ := lrl_mem.mp hq
  rw [h2]
  exact h.2.2.2 _ _ h1
def isLg : Option (Option Value) → Bool
  | some (some v) => v.category == 2
  | _ => false
def drp (lc : List (Option Value)) : Nat → List (Option Value)
  | 0 => lc
  | j + 1 => if isLg lc[j]? = true then lc.set j none else lc
def st1 (lc : List (Option Value)) (i : Nat) (v : Value) : List (Option Value) := (drp lc i).set i (some v)
def st2 (lc : List (Option Value)) (i : Nat) (v : Value) : List (Option Value) := ((drp lc i).set i (some v)).set (i + 1) none
theorem drp_succ (lc : List (Option Value)) (j : Nat) : drp lc (j + 1) = if isLg lc[j]? = true then lc.set j none else lc := rfl
theorem drp_len (lc : List (Option Value)) (i : Nat) : (drp lc i).length = lc.length := by
  cases i with
  | zero => rfl
  | succ j => rw [drp_succ]; split <;> simp
theorem drp_get {lc : List (Option Value)} {i j : Nat} {v : Value} (h : (drp lc i)[j]? = some (some v)) : lc[j]? = some (some v) ∧ ¬ (j + 1 = i ∧ v.category = 2) := by
  cases i with
  | zero => exact ⟨h, by omega⟩
  | succ k =>
    rw [drp_succ] at h
    split at h
    · rename_i hl
      by_cases e : j = k
      · subst e
        rw [List.getElem?_set] at h
        simp at h
      · rw [List.getElem?_set_ne (Ne.symm e)] at h
        exact ⟨h, by omega⟩
    · rename_i hl
      refine ⟨h, ?_⟩
      rintro ⟨e, hc⟩
      have e : j = k := by omega
      subst e
      rw [h] at hl
      simp [isLg, hc] at hl
theorem LR.of1 {G : GX} {ls ls' : Array Slot} {nL i : Nat} {lc : List (Option Value)} {v : Value} (h : LR G ls nL lc) (h' : lv_has ls' nL ((i, cv G v) :: (lrl G lc).filter (fun q => !(q.1 == i) && !(q.1 + 1 == i && q.2.category == 2)))) : LR G ls' nL (st1 lc i v) := by
  refine ⟨h'.1, by simp [st1, drp_len]; exact h.2.1, h'.2.1, fun j w hj => ?_⟩
  unfold st1 at hj
  by_cases e : j = i
  · subst e
    rw [List.getElem?_set] at hj
    simp at hj
    have := hj.2
    subst this
    exact h'.2.2 (j, cv G v) List.mem_cons_self
  · rw [List.getElem?_set_ne (Ne.symm e)] at hj
    obtain ⟨h1, h2⟩ := drp_get hj
    refine h'.2.2 (j, cv G w) (List.mem_cons_of_mem _ (List.mem_filter.mpr ⟨lrl_mem.mpr ⟨w, h1, rfl⟩, ?_⟩))
    simp only [cv_cat]
    simp [e]
    exact Decidable.not_and_iff_not_or_not.mp h2
theorem LR.of2 {G : GX} {ls ls' : Array Slot} {nL i : Nat} {lc : List (Option Value)} {v : Value} (h : LR G ls nL lc) (h' : lv_has ls' nL ((i, cv G v) :: (lrl G lc).filter (fun q => !(q.1 == i) && (!(q.1 == i + 1) && !(q.1 + 1 == i && q.2.category == 2))))) : LR G ls' nL (st2 lc i v) := by
  refine ⟨h'.1, by simp [st2, drp_len]; exact h.2.1, h'.2.1, fun j w hj => ?_⟩
  unfold st2 at hj
  by_cases e2 : j = i + 1
  · subst e2
    rw [List.getElem?_set] at hj
    simp at hj
  · rw [List.getElem?_set_ne (Ne.symm e2)] at hj
    by_cases e : j = i
    · subst e
      rw [List.getElem?_set] at hj
      simp at hj
      have := hj.2
      subst this
      exact h'.2.2 (j, cv G v) List.mem_cons_self
    · rw [List.getElem?_set_ne (Ne.symm e)] at hj
      obtain ⟨h1, h2⟩ := drp_get hj
      refine h'.2.2 (j, cv G w) (List.mem_cons_of_mem _ (List.mem_filter.mpr ⟨lrl_mem.mpr ⟨w, h1, rfl⟩, ?_⟩))
      simp only [cv_cat]
      simp [e, e2]
      exact Decidable.not_and_iff_not_or_not.mp h2
theorem LR.weak {G : GX} {ls : Array Slot} {nL : Nat} {lc lc' : List (Option Value)} (h : LR G ls nL lc) (hl : lc'.length = lc.length) (hw : ∀ (i : Nat) (v : Value), lc'[i]? = some (some v) → lc[i]? = some (some v)) : LR G ls nL lc' := ⟨h.1, by rw [hl]; exact h.2.1, h.2.2.1, fun i v hv => h.2.2.2 i v (hw i v hv)⟩
/-! the judgement: from pc, with locals lc, stack st, heap S, the machine comes to the end r -/
/-- a method: its class, code, locals, answer's type, whether it is a constructor, its room -/
abbrev MD : Type := String × ByteArray × Nat × Option FieldType × Bool × Room
abbrev RS : Type := Option Value × AS
/-- an end: what the last state is like, and its heap -/
abbrev QT (α : Type) : Type := (α → List Frame → Array Value → State → State → Prop) × (α → AS)
def CT (G : GX) (M : MD) (E : State → Prop) (p : Program) (s : State) (m : MethodId) (meth : Method) (c : Code) : Prop :=
  p.tables.exec = Jvm.exec ∧ c.code = M.2.1 ∧ c.maxLocals = M.2.2.1 ∧ meth.sig.returnType = M.2.2.2.1 ∧ meth.locks = false ∧ (M.2.2.2.2.1 = true → meth.name = "<init>") ∧ s.vm.findClass M.1 = some m.cls ∧ EC G s s.heap ∧ E s ∧ gB G ≤ s.heap.size
def VW {α : Type} (G : GX) (M : MD) (QQ : QT α) (E : State → Prop) (pc : Nat) (lc : List (Option Value)) (st : List Value) (k z : Nat) (S : AS) (r : α) : Prop :=
  ∀ (p : Program) (e : Env) (s : State) (m : MethodId) (args : Array Value) (below : List Frame) (meth : Method) (c : Code) (H : Heap) (locs : List Loc) (ls : Array Slot), CT G M E p s m meth c → RelH G S H → va_S (gA G) s.heap H locs → LR G ls M.2.2.1 lc →
    W p G.1 e M.2.2.2.2.2 s m args below meth c H locs k z (QQ.1 r below args s) (F0 m pc ls (st.map (cv G)))
def V {α : Type} (G : GX) (M : MD) (QQ : QT α) (E : State → Prop) (b : Option (Option Nat)) (pc : Nat) (lc : List (Option Value)) (st : List Value) (k z : Nat) (S : AS) (X : Option α) : Prop :=
  Sp b S → ∀ r, X = some r → Sp b (QQ.2 r) ∧ VW G M QQ E pc lc st k z S r
theorem V.lift {G : GX} {M : MD} {α : Type} {QQ : QT α} {E : State → Prop} {b : Option (Option Nat)} {pc pc' : Nat} {lc lc' : List (Option Value)} {st st' : List Value} {k z k' z' : Nat} {S S' : AS} {X : Option α} (hS : Sp b S → Sp b S') (f : ∀ r, VW G M QQ E pc' lc' st' k' z' S' r → VW G M QQ E pc lc st k z S r) (h : V G M QQ E b pc' lc' st' k' z' S' X) : V G M QQ E b pc lc st k z S X := fun h0 r hr => ⟨(h (hS h0) r hr).1, f r (h (hS h0) r hr).2⟩
theorem V.none {G : GX} {M : MD} {α : Type} {QQ : QT α} {E : State → Prop} {b : Option (Option Nat)} {pc : Nat} {lc : List (Option Value)} {st : List Value} {k z : Nat} {S : AS} : V G M QQ E b pc lc st k z S none := fun _ _ h => by cases h
theorem V.weak {G : GX} {M : MD} {α : Type} {QQ : QT α} {E : State → Prop} {b : Option (Option Nat)} {pc : Nat} {lc lc' : List (Option Value)} {st : List Value} {k z : Nat} {S : AS} {X : Option α} (h : V G M QQ E b pc lc' st k z S X) (hl : lc'.length = lc.length) (hw : ∀ (i : Nat) (v : Value), lc'[i]? = some (some v) → lc[i]? = some (some v)) : V G M QQ E b pc lc st k z S X :=
  h.lift id fun r hV p e s m args below meth c H locs ls C hR hS hL => hV p e s m args below meth c H locs ls C hR hS (hL.weak hl hw)
/-! words of the pure programs -/
noncomputable def chk {α : Type} (c : Prop) (k : Option α) : Option α := @ite _ c (Classical.propDecidable c) k none
def nm {α β : Type} (a : α) (f : α → β) : β := f a
def bI {β : Type} (x : Option (Int32 × AS)) (k : Int32 → AS → Option β) : Option β := match x with
  | none => none
  | some r => k r.1 r.2
def bL {β : Type} (x : Option (Int64 × AS)) (k : Int64 → AS → Option β) : Option β := match x with
  | none => none
  | some r => k r.1 r.2
def bR {β : Type} (x : Option (Nat × AS)) (k : Nat → AS → Option β) : Option β := match x with
  | none => none
  | some r => k r.1 r.2
def bV {β : Type} (x : Option AS) (k : AS → Option β) : Option β := match x with
  | none => none
  | some r => k r
theorem chk_pos {α : Type} {c : Prop} {k : Option α} (h : c) : chk c k = k := by unfold chk; rw [if_pos h]
theorem chk_some {α : Type} {c : Prop} {k : Option α} {r : α} (h : chk c k = some r) : c ∧ k = some r := by
  unfold chk at h
  by_cases hc : c
  · rw [if_pos hc] at h; exact ⟨hc, h⟩
  · rw [if_neg hc] at h; cases h
