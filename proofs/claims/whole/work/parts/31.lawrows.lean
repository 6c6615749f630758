/-! THE CLAIM OUT OF ONE WALK OF THE LAW'S BODY. Your part is whole_start (and what it stands on); all else here is the same for every law, but numbers. -/
def R_law : String := "PaperChanceryLaw"
def lw_P (b : Addr) (xs : List Int32) (args : Array Value) (s : State) : Prop := args = #[.ref b] ∧ s.IntsAt b xs ∧ xs.length ≤ 3584 ∧ (Jvm.Cond.and given_1 narrow_1).before args s = true
def lw_Q (_ : Array Value) (s : State) (o : Outcome) (t : State) : Prop := o = .returned (some (.int 1)) ∧ Framed s o t [] 600000 7302250
def lw_Z (below : List Frame) (a : Array Value) (s : State) : State → Prop := fun t => ∃ o, t.status = .running ∧ Ended t below o ∧ lw_Q a s o t
/-- the law's own end, with 1 on the stack, nothing written that was there before, its room as the claim has it -/
theorem lw_ret {p : Program} {l : Launch} {e : Env} {s : State} {m : MethodId} {below : List Frame} {meth : Method} {c : Code} {b : Nat} (hx : p.tables.exec = Jvm.exec) (hb : c.code = code) (hr : meth.sig.returnType = ret) (hlocks : meth.locks = false) {pc : Nat} {H : Heap} {ls : Array Slot} (hdg : decode code pc = .ok (.ireturn, 1)) : W p l e room_1 s m #[Value.ref b] below meth c H [] 600000 7302250 (lw_Z below #[Value.ref b] s) (F0 m pc ls [.int 1]) := by
  intro T hT X
  obtain ⟨fs, hret, hrun, hended, hW, hframe⟩ := X.leave (v := some (.int 1)) (hlocks := hlocks) (fun h => by rw [hr] at h; cases h)
  have hmeth' : T.vm.method? m = some meth := X.method'
  refine ⟨T.setFrames fs, ?_, .returned (some (.int 1)), hrun, hended, rfl, ⟨_, rfl⟩, hW, hframe⟩
  jvm_step X.here [X.here.top, hx, hb, hdg, hmeth', hr, ret, narrow_b1]
  (try refine ⟨rfl, ?_⟩); (try refine ⟨rfl, ?_⟩)
  first | (intro acts; rw [hret _ acts rfl rfl rfl]) | rw [hret _ _ rfl rfl rfl]
  exact Steps.refl _
/-- what holds at the law's entry: the machine, the code, the tables' words (any of lw_tbl by 'hts w (by decide +kernel)'), the script of L ints xs at the cell b, what the Statement gives of the start (any of its parts by flat_of_before) -/
def lw_At (p : Program) (s : State) (m : MethodId) (meth : Method) (c : Code) (b L : Nat) (xs : Nat → Int32) : Prop :=
  p.tables.exec = Jvm.exec ∧ c.code = code ∧ meth.sig.returnType = ret ∧ c.maxLocals = 4 ∧ s.vm.findClass R_law = some m.cls ∧ (∀ w ∈ lw_tbl, w.before #[Value.ref b] s = true) ∧ va_X b L xs s s.heap ∧ b < s.heap.size ∧ meth.locks = false ∧ (Jvm.Cond.and given_1 narrow_1).before #[Value.ref b] s = true
abbrev md_law : MD := ("PaperChanceryLaw", code, 4, ret, false, room_1)
def QL (G : GX) (b : Nat) : QT AS := (fun _ below args s t => args = #[Value.ref b] → lw_Z below args s t, fun S => S)
def EL (G : GX) (L : Nat) (xs : Nat → Int32) (s : State) : Prop := va_X (gx G 0) L xs s s.heap ∧ gx G 0 < s.heap.size ∧ gB G = s.heap.size
section LAWR
variable {α : Type} {G : GX} {M : MD} {b : Option (Option Nat)} {S : AS} {QQ : QT α} {pc : Nat} {lc : List (Option Value)} {st : List Value} {k z : Nat} {X : Option α} {L : Nat} {xs : Nat → Int32}
theorem V.wid {E : State → Prop} {k' z' : Nat} (h : V G M QQ E b pc lc st k' z' S X) (hk : k ≤ k') (hz : z ≤ z') : V G M QQ E b pc lc st k z S X :=
  h.lift id fun r hV p e s m args below meth c H locs ls C hR hS hL => W.widen hk hz (hV p e s m args below meth c H locs ls C hR hS hL)
theorem x_sld {i : Int32} (hd : decode M.2.1 pc = .ok (.iaload, 1)) (h : V G M QQ (EL G L xs) b (pc + 1) lc (.int (xs (ix i)) :: st) k z S X) : V G M QQ (EL G L xs) b pc lc (.int i :: .retAddr 0 :: st) k z S (chk (vp_in i L) X) :=
  x_chk fun hin => h.lift id fun r hV p e s m args below meth c H locs ls C hR hS hL => by
    obtain ⟨e1, e2, e3⟩ := C.2.2.2.2.2.2.2.2.1
    exact va_sld (A := gA G) (rest := st.map (cv G)) C.1 C.2.1 e1 e2 (by show ¬ gB G ≤ gx G 0; omega) hS hin hd (hV p e s m args below meth c H locs ls C hR hS hL)
theorem x_slen (hd : decode M.2.1 pc = .ok (.arraylength, 1)) (h : V G M QQ (EL G L xs) b (pc + 1) lc (.int (Int32.ofNat L) :: st) k z S X) : V G M QQ (EL G L xs) b pc lc (.retAddr 0 :: st) k z S X :=
  h.lift id fun r hV p e s m args below meth c H locs ls C hR hS hL => by
    obtain ⟨e1, e2, e3⟩ := C.2.2.2.2.2.2.2.2.1
    exact va_slen (A := gA G) (rest := st.map (cv G)) C.1 C.2.1 e1 e2 (by show ¬ gB G ≤ gx G 0; omega) hS hd (hV p e s m args below meth c H locs ls C hR hS hL)
theorem x_lawret {bb : Nat} {S : AS} (hd : decode code pc = .ok (.ireturn, 1)) (hk : k ≤ 600000) (hz : z ≤ 7302250) : V G md_law (QL G bb) (EL G L xs) b pc lc [.int 1] k z S (some S) := by
  intro h0 r hr
  cases hr
  refine ⟨h0, fun p e s m args below meth c H locs ls C hR hS hL => ?_⟩
  by_cases ha : args = #[Value.ref bb]
  · subst ha
    refine va_forget (fun q hq => by rw [← C.2.2.2.2.2.2.2.2.1.2.2]; exact hS.2.2 q hq) ?_
    refine W.widen hk hz ?_
    intro T hT X
    obtain ⟨t, a1, b1⟩ := lw_ret (b := bb) C.1 C.2.1 C.2.2.2.1 C.2.2.2.2.1 hd T hT X
    exact ⟨t, a1, fun _ => b1⟩
  · intro T hT X
    exact ⟨_, Steps.refl _, fun h => absurd h ha⟩
end LAWR
