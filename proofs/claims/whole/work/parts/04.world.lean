/-! the pure heap: how many cells; ints, longs and references by cell and place -/
abbrev AS : Type := Nat × (Nat → Nat → Int32) × (Nat → Nat → Int64) × (Nat → Nat → Option Nat)
def gi (S : AS) (c k : Nat) : Int32 := S.2.1 c k
def gl (S : AS) (c k : Nat) : Int64 := S.2.2.1 c k
def gr (S : AS) (c k : Nat) : Option Nat := S.2.2.2 c k
def si (S : AS) (c k : Nat) (v : Int32) : AS := (S.1, fun a j => if a = c ∧ j = k then v else S.2.1 a j, S.2.2.1, S.2.2.2)
def sl (S : AS) (c k : Nat) (v : Int64) : AS := (S.1, S.2.1, fun a j => if a = c ∧ j = k then v else S.2.2.1 a j, S.2.2.2)
def sr (S : AS) (c k : Nat) (v : Option Nat) : AS := (S.1, S.2.1, S.2.2.1, fun a j => if a = c ∧ j = k then v else S.2.2.2 a j)
def sa (S : AS) (c : Nat) (f : Nat → Int32) : AS := (S.1, fun a j => if a = c then f j else S.2.1 a j, S.2.2.1, S.2.2.2)
def nw (S : AS) : AS := (S.1 + 1, fun a j => if a = S.1 then 0 else S.2.1 a j, fun a j => if a = S.1 then 0 else S.2.2.1 a j, fun a j => if a = S.1 then none else S.2.2.2 a j)
/-- an index as a place -/
abbrev ix (i : Int32) : Nat := i.toNatClampNeg
/-- kinds of cells: an array (0 int, 1 long, 2 boolean, 3 RuleBook; its length), or an object of a class -/
def aKl : List ((Nat × Nat) ⊕ Nat) := [.inr 0, .inr 1, .inl (0, 400), .inr 2, .inr 3, .inl (0, 16), .inl (0, 16), .inl (0, 16), .inl (0, 16), .inl (0, 64), .inl (0, 64), .inl (0, 64), .inr 4, .inl (0, 401), .inl (0, 401), .inl (0, 401), .inr 5, .inl (0, 24), .inl (0, 24), .inl (0, 24), .inl (0, 16), .inl (0, 16), .inl (0, 16), .inr 6, .inl (0, 48), .inl (0, 48), .inl (0, 48), .inl (0, 48), .inl (0, 48), .inl (0, 48), .inl (0, 48), .inl (0, 48), .inr 7, .inl (0, 161), .inl (0, 161), .inl (0, 161), .inl (0, 161), .inl (0, 160), .inr 8, .inl (0, 6), .inl (3, 6), .inr 3, .inl (0, 16), .inl (0, 16), .inl (0, 16), .inl (0, 16), .inl (0, 64), .inl (0, 64), .inl (0, 64), .inr 9, .inl (0, 16), .inl (0, 16), .inl (0, 24), .inl (1, 24), .inl (2, 24), .inl (2, 48), .inl (0, 48), .inl (0, 48), .inl (0, 9), .inl (0, 9), .inr 10, .inl (0, 2576), .inl (0, 161), .inr 11, .inl (0, 72), .inl (0, 24), .inl (0, 24), .inl (0, 24), .inl (0, 24), .inl (0, 48), .inr 12, .inl (0, 400), .inl (0, 72), .inl (0, 48), .inl (0, 161), .inl (0, 161), .inl (0, 161), .inl (0, 161), .inl (0, 336), .inl (0, 48), .inl (0, 6), .inl (0, 6), .inl (0, 6), .inl (0, 3600), .inl (0, 600), .inl (0, 16), .inl (0, 16), .inl (2, 24), .inl (2, 48), .inl (0, 48), .inl (0, 48), .inl (1, 24), .inl (2, 161), .inl (0, 48), .inl (0, 72), .inl (0, 24), .inl (0, 24), .inl (2, 24), .inl (0, 24)]
def bkK : Nat → (Nat × Nat) ⊕ Nat
  | 0 => .inr 3
  | 1 => .inl (0, 16)
  | 2 => .inl (0, 16)
  | 3 => .inl (0, 16)
  | 4 => .inl (0, 16)
  | _ => .inl (0, 64)
def aK (i : Nat) : (Nat × Nat) ⊕ Nat := if i < 99 then aKl.getD i (.inr 0) else bkK ((i - 99) % 8)
/-- the fields' kinds of each class: 0 int or boolean, 2 a reference -/
def fts : List (List Nat) := [[2, 2, 2, 2, 2, 2, 2, 2, 2, 2, 0, 0], [2, 0], [2, 2, 0, 0, 0, 0], [2, 2, 2, 2, 0, 2, 2, 2, 0], [2, 2, 2, 2, 0], [2, 2, 2, 0, 2, 2, 2, 0, 0], [2, 2, 2, 2, 2, 2, 2, 2, 0], [2, 2, 2, 2, 0, 2, 0], [2, 2, 2, 0], [2, 2, 2, 2, 2, 2, 2, 2, 2, 2, 2, 2, 2, 2, 0, 2, 0, 0, 0], [2, 2, 2], [2, 2, 2, 2, 2], [2, 0, 0, 2, 0, 2, 0, 2, 2, 2, 2, 0, 2, 2, 0, 0, 2, 2, 2, 2, 2, 0, 0, 0, 0, 0, 2, 2, 2, 2, 2, 2, 2, 2, 2, 0, 2, 2, 2, 2, 2, 0, 0]]
def ft (ci : Nat) : List Nat := fts.getD ci []
/-- the launch, the first address of the pure heap, addresses beyond it, class numbers -/
abbrev GX : Type := Launch × Nat × (Nat → Nat) × va_G × ClassId × ClassId × ClassId × ClassId
abbrev gB (G : GX) : Nat := G.2.1
abbrev gx (G : GX) : Nat → Nat := G.2.2.1
abbrev gD (G : GX) : va_G := G.2.2.2.1
abbrev gI (G : GX) : ClassId := G.2.2.2.2.1
abbrev gJ (G : GX) : ClassId := G.2.2.2.2.2.1
abbrev gZ (G : GX) : ClassId := G.2.2.2.2.2.2.1
abbrev gO (G : GX) : ClassId := G.2.2.2.2.2.2.2
abbrev gA (G : GX) : Nat → Prop := fun q => gB G ≤ q
abbrev tys (G : GX) : List (ClassId × FieldType) := [(gI G, .int), (gJ G, .long), (gZ G, .boolean), (gO G, .object "PaperChancery$RuleBook")]
/-- a pure value as the machine's: references are cells' numbers, retAddr j is the address gx j -/
def cv (G : GX) : Value → Value
  | .ref q => .ref (gB G + q)
  | .retAddr j => .ref (gx G j)
  | v => v
def rfB (G : GX) (r : Option Nat) : Option Nat := r.map (fun q => gB G + q)
def fv (G : GX) (S : AS) (i t k : Nat) : Value := match t with
  | 0 => .int (gi S i k)
  | _ => va_rf (rfB G (gr S i k))
def fvs (G : GX) (S : AS) (i ci : Nat) : List Value := (List.range (ft ci).length).map (fun k => fv G S i ((ft ci).getD k 0) k)
def fcK (G : GX) (S : AS) (i : Nat) : (Nat × Nat) ⊕ Nat → va_E
  | .inl (0, n) => .inl (gI G, n, .inl (gi S i))
  | .inl (1, n) => .inl (gJ G, n, .inr (.inl (gl S i)))
  | .inl (2, n) => .inl (gZ G, n, .inl (gi S i))
  | .inl (_, n) => .inl (gO G, n, .inr (.inr (.inr (.inr (fun k => rfB G (gr S i k))))))
  | .inr ci => .inr (ci, fvs G S i ci)
def fcell (G : GX) (S : AS) (i : Nat) : va_E := fcK G S i (aK i)
theorem fcell_congr {G : GX} {S S' : AS} {j : Nat} (h1 : ∀ k, gi S' j k = gi S j k) (h2 : ∀ k, gl S' j k = gl S j k) (h3 : ∀ k, gr S' j k = gr S j k) : fcell G S' j = fcell G S j := by
  have e1 : gi S' j = gi S j := funext h1
  have e2 : gl S' j = gl S j := funext h2
  unfold fcell fcK fvs fv
  simp only [e1, e2, h3]
def RelH (G : GX) (S : AS) (H : Heap) : Prop := H.size = gB G + S.1 ∧ ∀ i, i < S.1 → va_at (gD G) classes (gB G + i, fcell G S i) H
theorem RelH.put {G : GX} {S S' : AS} {H H1 : Heap} {i : Nat} (h : RelH G S H) (hn : S'.1 = S.1) (hz : H1.size = H.size) (ho : ∀ q, q ≠ gB G + i → H1[q]? = H[q]?) (hc : va_at (gD G) classes (gB G + i, fcell G S' i) H1) (hf : ∀ j, j ≠ i → fcell G S' j = fcell G S j) : RelH G S' H1 := by
  refine ⟨by rw [hz, hn]; exact h.1, fun j hj => ?_⟩
  by_cases e : j = i
  · rw [e]; exact hc
  · rw [hf j e]
    exact (h.2 j (by rw [← hn]; exact hj)).kept (ho _ (by show gB G + j ≠ gB G + i; omega))
theorem RelH.lt {G : GX} {S : AS} {H : Heap} (h : RelH G S H) {i : Nat} (hi : i < S.1) : gB G + i < H.size := by rw [h.1]; omega
theorem RelH.arr {G : GX} {S : AS} {H : Heap} (h : RelH G S H) {i : Nat} (hi : i < S.1) {x : va_E} (hx : fcell G S i = x) : va_at (gD G) classes (gB G + i, x) H := hx ▸ h.2 i hi
def sW : String := "worth   diocese degree  rank    posts   date    days    with    home    high    low     bar     if      and     "
def bW : List Int32 := [119, 111, 114, 116, 104, 32, 32, 32, 100, 105, 111, 99, 101, 115, 101, 32, 100, 101, 103, 114, 101, 101, 32, 32, 114, 97, 110, 107, 32, 32, 32, 32, 112, 111, 115, 116, 115, 32, 32, 32, 100, 97, 116, 101, 32, 32, 32, 32, 100, 97, 121, 115, 32, 32, 32, 32, 119, 105, 116, 104, 32, 32, 32, 32, 104, 111, 109, 101, 32, 32, 32, 32, 104, 105, 103, 104, 32, 32, 32, 32, 108, 111, 119, 32, 32, 32, 32, 32, 98, 97, 114, 32, 32, 32, 32, 32, 105, 102, 32, 32, 32, 32, 32, 32, 97, 110, 100, 32, 32, 32, 32, 32]
/-- the String constant, and the JDK's static -/
def SX (G : GX) (s : State) (H : Heap) : Prop := vk_R "PaperChancery$TokenRow" 71 sW (gx G 1) s ∧ vk_S 1 [112] [bW] (fun _ => gx G 1) (fun _ => gx G 2) (gA G) s H ∧ va_Z "java/lang/String" "COMPACT_STRINGS" "Z" (.int 1) (gA G) s H ∧ (va_Z "jdk/internal/util/Preconditions" "SIOOBE_FORMATTER" "Ljava/util/function/BiFunction;" .null (gA G) s H ∨ va_Z "jdk/internal/util/Preconditions" "SIOOBE_FORMATTER" "Ljava/util/function/BiFunction;" (.ref (gx G 3)) (gA G) s H)
theorem SX.warm {G : GX} {s U : State} {H : Heap} (hW : s.WarmedH U.vm) (h : SX G s H) : SX G U H := ⟨h.1.warm hW, h.2.1.moved hW.alike, h.2.2.1.moved hW.alike, h.2.2.2.imp (fun q => q.moved hW.alike) (fun q => q.moved hW.alike)⟩
theorem SX.kept {G : GX} {s : State} {H H1 : Heap} (h : SX G s H) (hq : ∀ a : Nat, a < H.size → ¬ gA G a → H1[a]? = H[a]?) : SX G s H1 := ⟨h.1, h.2.1.kept hq, h.2.2.1.kept hq, h.2.2.2.imp (fun q => q.kept hq) (fun q => q.kept hq)⟩
theorem SX.same {G : GX} {u U : State} {H : Heap} (hv : u.vm = U.vm) (h : SX G u H) : SX G U H := ⟨h.1.same hv.symm, h.2.1.moved (by rw [hv]; exact Vm.Alike.refl _), h.2.2.1.moved (by rw [hv]; exact Vm.Alike.refl _), h.2.2.2.imp (fun q => q.moved (by rw [hv]; exact Vm.Alike.refl _)) (fun q => q.moved (by rw [hv]; exact Vm.Alike.refl _))⟩
def EC (G : GX) (s : State) (H : Heap) : Prop := CX s ∧ va_K (gD G) classes (tys G) s ∧ SX G s H
theorem EC.warm {G : GX} {s U : State} {H : Heap} (hW : s.WarmedH U.vm) (h : EC G s H) : EC G U H := ⟨h.1.warm hW, h.2.1.moved hW.alike, h.2.2.warm hW⟩
theorem EC.same {G : GX} {u U : State} {H : Heap} (hv : u.vm = U.vm) (h : EC G u H) : EC G U H := ⟨h.1.same hv, h.2.1.moved (by rw [hv]; exact Vm.Alike.refl _), h.2.2.same hv⟩
theorem EC.kept {G : GX} {s : State} {H H1 : Heap} (h : EC G s H) (hq : ∀ a : Nat, a < H.size → ¬ gA G a → H1[a]? = H[a]?) : EC G s H1 := ⟨h.1, h.2.1, h.2.2.kept hq⟩
/-! the shape: which cells the fields of the two systems hold, from their making on -/
def shl : List (Nat × Nat × Nat) := [(0, 0, 1), (0, 1, 3), (0, 2, 16), (0, 3, 23), (0, 4, 32), (0, 5, 38), (0, 6, 49), (0, 7, 60), (0, 8, 63), (0, 9, 69), (1, 0, 2), (3, 0, 12), (3, 1, 4), (12, 0, 1), (12, 1, 13), (12, 2, 14), (12, 3, 15), (16, 0, 17), (16, 1, 18), (16, 2, 19), (16, 4, 20), (16, 5, 21), (16, 6, 22), (23, 0, 24), (23, 1, 25), (23, 2, 26), (23, 3, 27), (23, 4, 28), (23, 5, 29), (23, 6, 30), (23, 7, 31), (32, 0, 33), (32, 1, 34), (32, 2, 35), (32, 3, 36), (32, 5, 37), (38, 0, 39), (38, 1, 40), (38, 2, 41), (49, 0, 16), (49, 1, 23), (49, 2, 32), (49, 3, 38), (49, 4, 50), (49, 5, 51), (49, 6, 52), (49, 7, 53), (49, 8, 54), (49, 9, 55), (49, 10, 56), (49, 11, 57), (49, 12, 58), (49, 13, 59), (60, 0, 16), (60, 1, 61), (60, 2, 62), (63, 0, 64), (63, 1, 65), (63, 2, 66), (63, 3, 67), (63, 4, 68), (70, 0, 71), (70, 3, 72), (70, 5, 73), (70, 7, 74), (70, 8, 75), (70, 9, 76), (70, 10, 77), (70, 12, 78), (70, 13, 79), (70, 16, 80), (70, 17, 81), (70, 18, 82), (70, 19, 83), (70, 20, 84), (70, 26, 85), (70, 27, 86), (70, 28, 87), (70, 29, 88), (70, 30, 89), (70, 31, 90), (70, 32, 91), (70, 33, 92), (70, 34, 93), (70, 36, 94), (70, 37, 95), (70, 38, 96), (70, 39, 97), (70, 40, 98)]
/-- the RuleBook q is whole -/
def bkw (S : AS) (q : Nat) : Prop := (q = 4 ∨ q = 41 ∨ ∃ j, q = 99 + 8 * j) ∧ q + 8 ≤ S.1 ∧ gr S q 0 = some (q + 1) ∧ gr S q 1 = some (q + 2) ∧ gr S q 2 = some (q + 3) ∧ gr S q 3 = some (q + 4) ∧ gr S q 5 = some (q + 5) ∧ gr S q 6 = some (q + 6) ∧ gr S q 7 = some (q + 7)
def Sh (S : AS) : Prop := (∃ j, S.1 = 99 + 8 * j) ∧ (∀ t ∈ shl, gr S t.1 t.2.1 = some t.2.2) ∧ (∀ q, (q = 4 ∨ q = 41 ∨ (∃ j, q = 99 + 8 * j ∧ q < S.1)) → bkw S q) ∧ (∀ q, gr S 49 15 = some q → q = 4 ∨ q = 41 ∨ (∃ j, q = 99 + 8 * j ∧ q < S.1)) ∧ (∀ i q, gr S 40 i = some q → q = 4 ∨ q = 41 ∨ (∃ j, q = 99 + 8 * j ∧ q < S.1))
/-- what is kept on the way: nothing (constructors), the shape, the shape and one RuleBook -/
def Sp : Option (Option Nat) → AS → Prop
  | none, _ => True
  | some none, S => Sh S
  | some (some q), S => Sh S ∧ bkw S q
theorem bkw.congr {S S' : AS} {q : Nat} (hn : S'.1 = S.1) (hr : S'.2.2.2 = S.2.2.2) (h : bkw S q) : bkw S' q := by
  unfold bkw gr at h ⊢
  rw [hr, hn]; exact h
theorem Sh.congr {S S' : AS} (hn : S'.1 = S.1) (hr : S'.2.2.2 = S.2.2.2) (h : Sh S) : Sh S' := by
  unfold Sh bkw gr at h ⊢
  rw [hr, hn]; exact h
theorem Sp.congr {b : Option (Option Nat)} {S S' : AS} (hn : S'.1 = S.1) (hr : S'.2.2.2 = S.2.2.2) (h : Sp b S) : Sp b S' := by
  match b, h with
  | none, _ => trivial
  | some none, h => exact Sh.congr hn hr h
  | some (some q), h => exact ⟨Sh.congr hn hr h.1, h.2.congr hn hr⟩
theorem Sp.si {b : Option (Option Nat)} {S : AS} (h : Sp b S) (c k : Nat) (v : Int32) : Sp b (si S c k v) := Sp.congr (S := S) rfl rfl h
theorem Sp.sl {b : Option (Option Nat)} {S : AS} (h : Sp b S) (c k : Nat) (v : Int64) : Sp b (sl S c k v) := Sp.congr (S := S) rfl rfl h
theorem Sp.sa {b : Option (Option Nat)} {S : AS} (h : Sp b S) (c : Nat) (f : Nat → Int32) : Sp b (sa S c f) := Sp.congr (S := S) rfl rfl h
theorem Sp.sh {o : Option Nat} {S : AS} (h : Sp (some o) S) : Sh S := by
  match o, h with
  | none, h => exact h
  | some q, h => exact h.1
/-! reading behind writing -/
theorem gi_si (S : AS) (c k : Nat) (v : Int32) (a j : Nat) : gi (si S c k v) a j = if a = c ∧ j = k then v else gi S a j := rfl
theorem gi_sl (S : AS) (c k : Nat) (v : Int64) (a j : Nat) : gi (sl S c k v) a j = gi S a j := rfl
theorem gi_sr (S : AS) (c k : Nat) (v : Option Nat) (a j : Nat) : gi (sr S c k v) a j = gi S a j := rfl
theorem gi_sa (S : AS) (c : Nat) (f : Nat → Int32) (a j : Nat) : gi (sa S c f) a j = if a = c then f j else gi S a j := rfl
theorem gi_nw (S : AS) (a j : Nat) : gi (nw S) a j = if a = S.1 then 0 else gi S a j := rfl
theorem gl_si (S : AS) (c k : Nat) (v : Int32) (a j : Nat) : gl (si S c k v) a j = gl S a j := rfl
theorem gl_sl (S : AS) (c k : Nat) (v : Int64) (a j : Nat) : gl (sl S c k v) a j = if a = c ∧ j = k then v else gl S a j := rfl
theorem gl_sr (S : AS) (c k : Nat) (v : Option Nat) (a j : Nat) : gl (sr S c k v) a j = gl S a j := rfl
theorem gl_sa (S : AS) (c : Nat) (f : Nat → Int32) (a j : Nat) : gl (sa S c f) a j = gl S a j := rfl
theorem gl_nw (S : AS) (a j : Nat) : gl (nw S) a j = if a = S.1 then 0 else gl S a j := rfl
theorem gr_si (S : AS) (c k : Nat) (v : Int32) (a j : Nat) : gr (si S c k v) a j = gr S a j := rfl
theorem gr_sl (S : AS) (c k : Nat) (v : Int64) (a j : Nat) : gr (sl S c k v) a j = gr S a j := rfl
theorem gr_sr (S : AS) (c k : Nat) (v : Option Nat) (a j : Nat) : gr (sr S c k v) a j = if a = c ∧ j = k then v else gr S a j := rfl
theorem gr_sa (S : AS) (c : Nat) (f : Nat → Int32) (a j : Nat) : gr (sa S c f) a j = gr S a j := rfl
theorem gr_nw (S : AS) (a j : Nat) : gr (nw S) a j = if a = S.1 then none else gr S a j := rfl
