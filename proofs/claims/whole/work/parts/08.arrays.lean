section ARR
variable {G : GX} {M : MD} {α : Type} {QQ : QT α} {E : State → Prop} {b : Option (Option Nat)} {pc : Nat} {lc : List (Option Value)} {st : List Value} {k z : Nat} {S : AS} {X : Option α}
theorem x_chk {c : Prop} (h : c → V G M QQ E b pc lc st k z S X) : V G M QQ E b pc lc st k z S (chk c X) := by
  intro h0 r hr
  obtain ⟨h1, h2⟩ := chk_some hr
  exact h h1 h0 r h2
theorem x_nm {γ : Type} {a : γ} {f : γ → Option α} (h : ∀ y, y = a → V G M QQ E b pc lc st k z S (f y)) : V G M QQ E b pc lc st k z S (nm a f) := h a rfl
theorem x_iald {a n : Nat} {i : Int32} (hd : decode M.2.1 pc = .ok (.iaload, 1)) (hK : aK a = .inl (0, n)) (hq : Sp b S → a < S.1) (h : V G M QQ E b (pc + 1) lc (.int (gi S a (ix i)) :: st) k z S X) : V G M QQ E b pc lc (.int i :: .ref a :: st) k z S (chk (vp_in i n) X) :=
  x_chk fun hin => h.liftS id fun h0 r hV p e s m args below meth c H locs ls C hR hS hL => va_iald (rest := st.map (cv G)) (a := gB G + a) (n := n) (f := gi S a) (tys := tys G) C.1 C.2.1 C.2.2.2.2.2.2.2.1.2.1 (hR.one (hq h0) (fc_int hK)) 0 0 rfl rfl hin hd (hV p e s m args below meth c H locs ls C hR hS hL)
theorem x_zald {a n : Nat} {i : Int32} (hd : decode M.2.1 pc = .ok (.baload, 1)) (hK : aK a = .inl (2, n)) (hq : Sp b S → a < S.1) (h : V G M QQ E b (pc + 1) lc (.int (gi S a (ix i)) :: st) k z S X) : V G M QQ E b pc lc (.int i :: .ref a :: st) k z S (chk (vp_in i n) X) :=
  x_chk fun hin => h.liftS id fun h0 r hV p e s m args below meth c H locs ls C hR hS hL => va_zald (rest := st.map (cv G)) (a := gB G + a) (n := n) (f := gi S a) (tys := tys G) C.1 C.2.1 C.2.2.2.2.2.2.2.1.2.1 (hR.one (hq h0) (fc_bool hK)) 0 2 rfl rfl hin hd (hV p e s m args below meth c H locs ls C hR hS hL)
theorem x_lald {a n : Nat} {i : Int32} (hd : decode M.2.1 pc = .ok (.laload, 1)) (hK : aK a = .inl (1, n)) (hq : Sp b S → a < S.1) (h : V G M QQ E b (pc + 1) lc (.long (gl S a (ix i)) :: st) k z S X) : V G M QQ E b pc lc (.int i :: .ref a :: st) k z S (chk (vp_in i n) X) :=
  x_chk fun hin => h.liftS id fun h0 r hV p e s m args below meth c H locs ls C hR hS hL => va_lald (rest := st.map (cv G)) (a := gB G + a) (n := n) (f := gl S a) (tys := tys G) C.1 C.2.1 C.2.2.2.2.2.2.2.1.2.1 (hR.one (hq h0) (fc_long hK)) 0 1 rfl rfl hin hd (hV p e s m args below meth c H locs ls C hR hS hL)
/-- an array of RuleBooks: null, or one -/
theorem x_aald {a n : Nat} {i : Int32} {Y : Nat → Option α} (hd : decode M.2.1 pc = .ok (.aaload, 1)) (hK : aK a = .inl (3, n)) (hq : Sp b S → a < S.1) (h1 : gr S a (ix i) = none → V G M QQ E b (pc + 1) lc (.null :: st) k z S X) (h2 : ∀ q, gr S a (ix i) = some q → V G M QQ E b (pc + 1) lc (.ref q :: st) k z S (Y q)) : V G M QQ E b pc lc (.int i :: .ref a :: st) k z S (chk (vp_in i n) (oel (gr S a (ix i)) X Y)) := by
  refine x_chk fun hin => ?_
  intro h0 r hr
  cases hg : gr S a (ix i) with
  | none =>
    rw [hg] at hr
    have a1 := h1 hg h0 r hr
    refine ⟨a1.1, fun p e s m args below meth c H locs ls C hR hS hL => va_aldq (rest := st.map (cv G)) (a := gB G + a) (n := n) (f := fun k => rfB G (gr S a k)) (tys := tys G) C.1 C.2.1 C.2.2.2.2.2.2.2.1.2.1 (hR.one (hq h0) (fc_ref hK)) 0 3 rfl rfl hin hd ?_⟩
    show W _ _ _ _ _ _ _ _ _ _ _ _ _ _ _ (F0 _ _ _ (va_rf (rfB G (gr S a (ix i))) :: _))
    rw [hg]
    exact a1.2 p e s m args below meth c H locs ls C hR hS hL
  | some q =>
    rw [hg] at hr
    have a1 := h2 q hg h0 r hr
    refine ⟨a1.1, fun p e s m args below meth c H locs ls C hR hS hL => va_aldq (rest := st.map (cv G)) (a := gB G + a) (n := n) (f := fun k => rfB G (gr S a k)) (tys := tys G) C.1 C.2.1 C.2.2.2.2.2.2.2.1.2.1 (hR.one (hq h0) (fc_ref hK)) 0 3 rfl rfl hin hd ?_⟩
    show W _ _ _ _ _ _ _ _ _ _ _ _ _ _ _ (F0 _ _ _ (va_rf (rfB G (gr S a (ix i))) :: _))
    rw [hg]
    exact a1.2 p e s m args below meth c H locs ls C hR hS hL
theorem upd_si {S : AS} {a j : Nat} {x : Int32} : gi (si S a j x) a = upd (gi S a) j x := by
  funext i
  simp [gi_si, upd]
theorem upd_sl {S : AS} {a j : Nat} {x : Int64} : gl (sl S a j x) a = vp_updL (gl S a) j x := by
  funext i
  simp [gl_sl, vp_updL]
theorem upd_fun (f : Nat → Int32) (j : Nat) (x : Int32) : updV (fun i => Value.int (f i)) j (.int x) = fun i => Value.int (upd f j x i) := by
  funext i
  by_cases e : i = j <;> simp [updV, upd, e]
theorem updL_fun (f : Nat → Int64) (j : Nat) (x : Int64) : updV (fun i => Value.long (f i)) j (.long x) = fun i => Value.long (vp_updL f j x i) := by
  funext i
  by_cases e : i = j <;> simp [updV, vp_updL, e]
theorem x_iast {a n : Nat} {i v : Int32} (hd : decode M.2.1 pc = .ok (.iastore, 1)) (hK : aK a = .inl (0, n)) (hq : Sp b S → a < S.1) (h : V G M QQ E b (pc + 1) lc st k z (si S a (ix i) v) X) : V G M QQ E b pc lc (.int v :: .int i :: .ref a :: st) k z S (chk (vp_in i n) X) :=
  x_chk fun hin => h.liftS (fun h0 => h0.si _ _ _) fun h0 r hV p e s m args below meth c H locs ls C hR hS hL => by
    refine W.iast (g := F0 m pc ls (Value.int v :: Value.int i :: Value.ref (gB G + a) :: st.map (cv G))) (rest := st.map (cv G)) C.1 C.2.1 (hR.arr (hq h0) (fc_int hK)) ((C.2.2.2.2.2.2.2.1.2.1.2 0 _ rfl).1 n (fun j => .int (gi S a j))) (fun q => by cases q) (by show ¬ (i < 0 ∨ (arrV _ _ _).slots.size ≤ _); rw [arrV_size]; exact hin) rfl rfl hd fun H1 e1 e2 e3 => ?_
    refine hV p e s m args below meth c H1 _ ls C (hR.put (S' := si S a (ix i) v) rfl e2 e3 ?_ (fun j hj => fcell_si hj)) (hS.put e2 e3 (Nat.le_add_right _ _)) hL
    rw [fc_int hK, upd_si]
    show H1[_]? = some (vp_cell _ _)
    rw [e1, vp_cell_i, vp_cell_i, arrV_store, upd_fun]
theorem x_zast {a n : Nat} {i v : Int32} (hd : decode M.2.1 pc = .ok (.bastore, 1)) (hK : aK a = .inl (2, n)) (hq : Sp b S → a < S.1) (h : V G M QQ E b (pc + 1) lc st k z (si S a (ix i) (vp_nar .boolean v)) X) : V G M QQ E b pc lc (.int v :: .int i :: .ref a :: st) k z S (chk (vp_in i n) X) :=
  x_chk fun hin => h.liftS (fun h0 => h0.si _ _ _) fun h0 r hV p e s m args below meth c H locs ls C hR hS hL => by
    refine W.zast (g := F0 m pc ls (Value.int v :: Value.int i :: Value.ref (gB G + a) :: st.map (cv G))) (rest := st.map (cv G)) C.1 C.2.1 (hR.arr (hq h0) (fc_bool hK)) ((C.2.2.2.2.2.2.2.1.2.1.2 2 _ rfl).1 n (fun j => .int (gi S a j))) (fun q => by cases q) (by show ¬ (i < 0 ∨ (arrV _ _ _).slots.size ≤ _); rw [arrV_size]; exact hin) rfl rfl hd fun H1 e1 e2 e3 => ?_
    refine hV p e s m args below meth c H1 _ ls C (hR.put (S' := si S a (ix i) (vp_nar .boolean v)) rfl e2 e3 ?_ (fun j hj => fcell_si hj)) (hS.put e2 e3 (Nat.le_add_right _ _)) hL
    rw [fc_bool hK, upd_si]
    show H1[_]? = some (vp_cell _ _)
    rw [e1, vp_cell_i, vp_cell_i, arrV_store, ← upd_fun]
    rfl
theorem x_last {a n : Nat} {i : Int32} {v : Int64} (hd : decode M.2.1 pc = .ok (.lastore, 1)) (hK : aK a = .inl (1, n)) (hq : Sp b S → a < S.1) (h : V G M QQ E b (pc + 1) lc st k z (sl S a (ix i) v) X) : V G M QQ E b pc lc (.long v :: .int i :: .ref a :: st) k z S (chk (vp_in i n) X) :=
  x_chk fun hin => h.liftS (fun h0 => h0.sl _ _ _) fun h0 r hV p e s m args below meth c H locs ls C hR hS hL => by
    refine W.last (g := F0 m pc ls (Value.long v :: Value.int i :: Value.ref (gB G + a) :: st.map (cv G))) (rest := st.map (cv G)) C.1 C.2.1 (hR.arr (hq h0) (fc_long hK)) ((C.2.2.2.2.2.2.2.1.2.1.2 1 _ rfl).1 n (fun j => .long (gl S a j))) (fun q => by cases q) (by show ¬ (i < 0 ∨ (arrV _ _ _).slots.size ≤ _); rw [arrV_size]; exact hin) rfl rfl hd fun H1 e1 e2 e3 => ?_
    refine hV p e s m args below meth c H1 _ ls C (hR.put (S' := sl S a (ix i) v) rfl e2 e3 ?_ (fun j hj => fcell_sl hj)) (hS.put e2 e3 (Nat.le_add_right _ _)) hL
    rw [fc_long hK, upd_sl]
    show H1[_]? = some (vp_cell _ _)
    rw [e1, vp_cell_l, vp_cell_l, arrV_store, updL_fun]
theorem x_alen {a t n : Nat} {v : Int32} (hd : decode M.2.1 pc = .ok (.arraylength, 1)) (hK : aK a = .inl (t, n)) (ht : t < 3) (hv : Int32.ofNat n = v) (hq : Sp b S → a < S.1) (h : V G M QQ E b (pc + 1) lc (.int v :: st) k z S X) : V G M QQ E b pc lc (.ref a :: st) k z S X :=
  h.liftS id fun h0 r hV p e s m args below meth c H locs ls C hR hS hL => by
    have hKK := C.2.2.2.2.2.2.2.1.2.1
    have kk := hV p e s m args below meth c H locs ls C hR hS hL
    match t, ht, hK with
    | 0, _, hK => exact va_alen (rest := st.map (cv G)) (a := gB G + a) C.1 C.2.1 hKK (hR.one (hq h0) (fc_int hK)) 0 0 rfl rfl hv hd kk
    | 1, _, hK => exact va_alen (rest := st.map (cv G)) (a := gB G + a) C.1 C.2.1 hKK (hR.one (hq h0) (fc_long hK)) 0 1 rfl rfl hv hd kk
    | 2, _, hK => exact va_alen (rest := st.map (cv G)) (a := gB G + a) C.1 C.2.1 hKK (hR.one (hq h0) (fc_bool hK)) 0 2 rfl rfl hv hd kk
end ARR
