section HEAP
variable {G : GX} {M : MD} {α : Type} {QQ : QT α} {E : State → Prop} {b : Option (Option Nat)} {pc : Nat} {lc : List (Option Value)} {st : List Value} {k z : Nat} {S : AS} {X : Option α}
theorem fc_obj {G : GX} {S : AS} {i ci : Nat} (h : aK i = .inr ci) : fcell G S i = .inr (ci, fvs G S i ci) := by unfold fcell; rw [h]; rfl
theorem fc_int {G : GX} {S : AS} {i n : Nat} (h : aK i = .inl (0, n)) : fcell G S i = .inl (gI G, n, .inl (gi S i)) := by unfold fcell; rw [h]; rfl
theorem fc_long {G : GX} {S : AS} {i n : Nat} (h : aK i = .inl (1, n)) : fcell G S i = .inl (gJ G, n, .inr (.inl (gl S i))) := by unfold fcell; rw [h]; rfl
theorem fc_bool {G : GX} {S : AS} {i n : Nat} (h : aK i = .inl (2, n)) : fcell G S i = .inl (gZ G, n, .inl (gi S i)) := by unfold fcell; rw [h]; rfl
theorem fc_ref {G : GX} {S : AS} {i n : Nat} (h : aK i = .inl (3, n)) : fcell G S i = .inl (gO G, n, .inr (.inr (.inr (.inr (fun k => rfB G (gr S i k)))))) := by unfold fcell; rw [h]; rfl
theorem fvs_get {G : GX} {S : AS} {i ci k t : Nat} (h : (ft ci)[k]? = some t) : (fvs G S i ci)[k]? = some (fv G S i t k) := by
  have hk : k < (ft ci).length := (List.getElem?_eq_some_iff.mp h).1
  unfold fvs
  rw [List.getElem?_map, List.getElem?_range hk]
  simp [h]
theorem fvs_len {G : GX} {S : AS} {i ci : Nat} : (fvs G S i ci).length = (ft ci).length := by simp [fvs]
/-- the world with one cell -/
theorem RelH.one {G : GX} {S : AS} {H : Heap} (h : RelH G S H) {i : Nat} (hi : i < S.1) {x : va_E} (hx : fcell G S i = x) : va_P (gD G) classes [(gB G + i, x)] H := by
  intro k q hk
  have hz : k < 1 := (List.getElem?_eq_some_iff.mp hk).1
  rw [show k = 0 by omega] at hk
  cases hk
  exact h.arr hi hx
/-- a field's word: its link (own class or nest mate) -/
def fword (own : String) (idx : Nat) (C : String) (T : u_T) (k : Nat) (pl : Bool) (w : Cond) : Prop := (pl = true ∧ w = .fieldLink own idx C (T k).2.1 (T k).2.2.1) ∨ ∃ host, w = .fieldLinkNest own idx C (T k).2.1 (T k).2.2.1 host ∧ pl = false
def CLS (ci : Nat) (C : String) (T : u_T) (N : Nat) (ty : Nat → FieldType) : Prop := classes[ci]? = some (C, T, N) ∧ (∀ w ∈ u_ws C T N, w ∈ lw_tbl) ∧ (∀ k, k < N → (T k).1 = C) ∧ (∀ k, k < N → parseFieldDescriptor (T k).2.2.1 = some (ty k)) ∧ (∀ a, a < N → ∀ b, b < N → a ≠ b → (T a).2.1 ≠ (T b).2.1) ∧ (ft ci).length = N
/-- entry idx of class own is field f of class ci, of kind t and type ty; fin: it is final -/
def FLD (own : String) (idx ci f t : Nat) (ty : FieldType) (fin pl : Bool) : Prop := ∃ (C : String) (T : u_T) (N : Nat) (ty0 : Nat → FieldType) (w : Cond), CLS ci C T N ty0 ∧ f < N ∧ (ft ci)[f]? = some t ∧ fword own idx C T f pl w ∧ w ∈ lw_tbl ∧ ty0 f = ty ∧ (T f).2.2.2 = fin
/-- getfield at the W level -/
theorem w_get {q ci f idx t : Nat} {ty : FieldType} {fin pl : Bool} (hF : FLD M.1 idx ci f t ty fin pl) (hK : aK q = .inr ci) (hd : decode M.2.1 pc = .ok (.getfield idx, 3)) (hq : q < S.1)
    {p : Program} {e : Env} {s : State} {m : MethodId} {args : Array Value} {below : List Frame} {meth : Method} {c : Code} {H : Heap} {locs : List Loc} {ls : Array Slot} {Q : State → Prop} {rest : List Value} (C0 : CT G M E p s m meth c) (hR : RelH G S H)
    (kk : W p G.1 e M.2.2.2.2.2 s m args below meth c H locs k z Q (F0 m (pc + 3) ls (fv G S q t f :: rest))) : W p G.1 e M.2.2.2.2.2 s m args below meth c H locs k z Q (F0 m pc ls (.ref (gB G + q) :: rest)) := by
  have hEC := C0.2.2.2.2.2.2.2.1
  obtain ⟨C, T, N, ty0, w, ⟨hc, hi, hcl, -⟩, hf, hft, hwd, hw, -⟩ := hF
  have hcl := hcl f hf
  have hv : (fvs G S q ci)[f]? = some (fv G S q t f) := fvs_get hft
  rcases hwd with ⟨-, rfl⟩ | ⟨host, rfl, -⟩
  · exact va_get (C := C) (T := T) (N := N) (ci := ci) C0.1 C0.2.1 (hEC.1.lays hi) (fun _ h => h) C0.2.2.2.2.2.2.1 hEC.2.1 (hR.one hq (fc_obj hK)) 0 rfl hc f hf (hEC.1.use hw rfl) (fun _ h => hcl ▸ h) hv hd kk
  · exact va_getN (C := C) (T := T) (N := N) (ci := ci) C0.1 C0.2.1 (hEC.1.lays hi) (fun _ h => h) C0.2.2.2.2.2.2.1 hEC.2.1 (hR.one hq (fc_obj hK)) 0 rfl hc f hf (hEC.1.use hw rfl) (fun _ h => hcl ▸ h) hv hd kk
/-- putfield at the W level -/
theorem w_put {q ci f idx t : Nat} {ty : FieldType} {fin pl : Bool} {v : Value} {S' : AS} (hF : FLD M.1 idx ci f t ty fin pl) (hK : aK q = .inr ci) (hd : decode M.2.1 pc = .ok (.putfield idx, 3)) (hq : q < S.1) (hfin : fin = true → M.2.2.2.2.1 = true ∧ (classes[ci]?).map (fun x => x.1) = some M.1)
    (hpl : fin = true → pl = true)
    (hn : narrow ty v = v) (hfit : fits ty v = true) (h1 : S'.1 = S.1) (h2 : fvs G S' q ci = (fvs G S q ci).set f v) (h3 : ∀ j, j ≠ q → fcell G S' j = fcell G S j)
    {p : Program} {e : Env} {s : State} {m : MethodId} {args : Array Value} {below : List Frame} {meth : Method} {c : Code} {H : Heap} {locs : List Loc} {ls : Array Slot} {Q : State → Prop} {rest : List Value} (C0 : CT G M E p s m meth c) (hR : RelH G S H) (hSS : va_S (gA G) s.heap H locs)
    (kk : ∀ (H1 : Heap) (locs1 : List Loc), RelH G S' H1 → va_S (gA G) s.heap H1 locs1 → W p G.1 e M.2.2.2.2.2 s m args below meth c H1 locs1 k z Q (F0 m (pc + 3) ls rest)) : W p G.1 e M.2.2.2.2.2 s m args below meth c H locs k z Q (F0 m pc ls (v :: .ref (gB G + q) :: rest)) := by
  have hEC := C0.2.2.2.2.2.2.2.1
  have hKK := hEC.2.1
  have hown := C0.2.2.2.2.2.2.1
  obtain ⟨C, T, N, ty0, w, ⟨hc, hi, hcl, hty, hnm, hlen⟩, hf, hft, hwd, hw, htf, hfi⟩ := hF
  have hts := hEC.1.lays hi (A := args)
  have hap := va_apart (own := M.1) hts (fun _ h => h) ty0 hty hnm hKK hc
  obtain ⟨r, g1, cell, q1, q2, q3, q4⟩ := hR.arr hq (fc_obj hK)
  have hr : r = (C, T, N) := Option.some.inj (g1.symm.trans hc)
  subst hr
  obtain ⟨hS, hfc, kC, hkC, hkind⟩ := hKK.1 ci _ hc
  obtain ⟨cf, kf, fi, ff, hif, hsl⟩ := hS f hf
  have hlay := hts _ (u_in_lay hf)
  unfold u_lay at hlay
  have hst := (u_facts hfc hkC (u_lays hts (fun _ h => h) hf) hif).1
  have hd2 : parseFieldDescriptor (T f).2.2.1 = some ty := by rw [hty f hf, htf]
  have hl : f < (fvs G S q ci).length := by rw [fvs_len, hlen]; exact hf
  have hcf0 := hcl f hf
  have hsame : ∀ x, s.fieldFound? (T f).1 (T f).2.1 (T f).2.2.1 = some x → s.fieldFound? C (T f).2.1 (T f).2.2.1 = some x := fun _ h => hcf0 ▸ h
  have fin2 : ∀ H' : Heap, H'[gB G + q]? = some (cell.setSlot ff.slot v) → H'.size = H.size → (∀ q', q' ≠ gB G + q → H'[q']? = H[q']?) → W p G.1 e M.2.2.2.2.2 s m args below meth c H' (locs ++ [⟨gB G + q, ff.slot⟩]) k z Q (F0 m (pc + 3) ls rest) := by
    intro H' e1 e2 e3
    rw [hsl] at e1
    refine kk H' _ (hR.put h1 e2 e3 ?_ h3) (hSS.put e2 e3 (Nat.le_add_right _ _))
    rw [fc_obj hK, h2]
    exact ⟨_, hc, t_OB.to (V := updV (vp_V (fvs G S q ci)) f v) ⟨_, e1, q2, q3, t_set q4 hap hf v⟩ (fun j _ => vp_updV_set hl v j)⟩
  cases fin with
  | false =>
    rw [if_neg (by rw [hfi]; decide)] at hlay
    have h6 := u_store hfc hkC hkind hlay hif hd2 hn hfit
    rcases hwd with ⟨-, rfl⟩ | ⟨host, rfl, -⟩
    · exact W.putK C0.1 C0.2.1 (f := ff) ⟨hown, hEC.1.use hw rfl, ⟨_, _, _, hsame _ hif⟩, hst⟩ (by rw [q2]; exact h6) q1 q3 (by rw [hsl]; exact k2_hasslot (q4 f hf)) rfl rfl hd fin2
    · exact va_WputK C0.1 C0.2.1 (f := ff) hown (hEC.1.use hw rfl) (hsame _ hif) hst (by rw [q2]; exact h6) q1 q3 (by rw [hsl]; exact k2_hasslot (q4 f hf)) rfl rfl hd fin2
  | true =>
    rw [if_pos hfi] at hlay
    obtain ⟨hini, hM⟩ := hfin rfl
    have hCM : C = M.1 := by rw [hc] at hM; exact Option.some.inj hM
    have hw2 : w = .fieldLink M.1 idx C (T f).2.1 (T f).2.2.1 := by
      rcases hwd with ⟨-, h⟩ | ⟨_, -, h⟩
      · exact h
      · rw [hpl rfl] at h; cases h
    subst hw2
    have hcf : m.cls = cf := by
      obtain ⟨_, _, c', _, _, _, -, -, hf', -, -, -, hown2, -⟩ := Cond.laysFinal_spec hlay
      have e1 : c' = cf := by have := hif.symm.trans hf'; simp at this; exact this.1.symm
      rw [hcf0, hCM] at hown2
      rw [← e1]; exact Option.some.inj (hown.symm.trans hown2)
    have h6 := u_fits hfc hkC hkind (Or.inr hlay) hif hd2 hn hfit
    exact W.putFinK C0.1 C0.2.1 hown (hEC.1.use hw rfl) (hsame _ hif) hst hcf (C0.2.2.2.2.2.1 hini) (by rw [q2]; exact h6) q1 q3 (by rw [hsl]; exact k2_hasslot (q4 f hf)) rfl rfl hd fin2
theorem fvs_si {G : GX} {S : AS} {q ci f : Nat} (v : Int32) (h : (ft ci)[f]? = some 0) : fvs G (si S q f v) q ci = (fvs G S q ci).set f (.int v) := by
  apply List.ext_getElem?
  intro j
  have hl : f < (fvs G S q ci).length := by rw [fvs_len]; exact (List.getElem?_eq_some_iff.mp h).1
  by_cases e : j = f
  · subst e
    rw [List.getElem?_set_self hl, fvs_get h]
    simp [fv, gi_si]
  · rw [List.getElem?_set_ne (Ne.symm e)]
    by_cases hj : j < (ft ci).length
    · rw [fvs_get (List.getElem?_eq_getElem hj), fvs_get (List.getElem?_eq_getElem hj)]
      have : gi (si S q f v) q j = gi S q j := by simp [gi_si, e]
      simp only [fv, this, gr_si]
    · rw [List.getElem?_eq_none (by rw [fvs_len]; omega), List.getElem?_eq_none (by rw [fvs_len]; omega)]
theorem fvs_sr {G : GX} {S : AS} {q ci f : Nat} (v : Option Nat) (h : (ft ci)[f]? = some 2) : fvs G (sr S q f v) q ci = (fvs G S q ci).set f (va_rf (rfB G v)) := by
  apply List.ext_getElem?
  intro j
  have hl : f < (fvs G S q ci).length := by rw [fvs_len]; exact (List.getElem?_eq_some_iff.mp h).1
  by_cases e : j = f
  · subst e
    rw [List.getElem?_set_self hl, fvs_get h]
    simp [fv, gr_sr]
  · rw [List.getElem?_set_ne (Ne.symm e)]
    by_cases hj : j < (ft ci).length
    · rw [fvs_get (List.getElem?_eq_getElem hj), fvs_get (List.getElem?_eq_getElem hj)]
      have : gr (sr S q f v) q j = gr S q j := by simp [gr_sr, e]
      simp only [fv, this, gi_sr]
    · rw [List.getElem?_eq_none (by rw [fvs_len]; omega), List.getElem?_eq_none (by rw [fvs_len]; omega)]
theorem fcell_si {G : GX} {S : AS} {c k : Nat} {v : Int32} {j : Nat} (h : j ≠ c) : fcell G (si S c k v) j = fcell G S j := fcell_congr (fun i => by simp [gi_si, h]) (fun _ => rfl) (fun _ => rfl)
theorem fcell_sl {G : GX} {S : AS} {c k : Nat} {v : Int64} {j : Nat} (h : j ≠ c) : fcell G (sl S c k v) j = fcell G S j := fcell_congr (fun _ => rfl) (fun i => by simp [gl_sl, h]) (fun _ => rfl)
theorem fcell_sr {G : GX} {S : AS} {c k : Nat} {v : Option Nat} {j : Nat} (h : j ≠ c) : fcell G (sr S c k v) j = fcell G S j := fcell_congr (fun _ => rfl) (fun _ => rfl) (fun i => by simp [gr_sr, h])
theorem fcell_sa {G : GX} {S : AS} {c : Nat} {f : Nat → Int32} {j : Nat} (h : j ≠ c) : fcell G (sa S c f) j = fcell G S j := fcell_congr (fun i => by simp [gi_sa, h]) (fun _ => rfl) (fun _ => rfl)
theorem V.liftS {pc' : Nat} {lc' : List (Option Value)} {st' : List Value} {k' z' : Nat} {S' : AS} (hS : Sp b S → Sp b S') (f : Sp b S → ∀ r, VW G M QQ E pc' lc' st' k' z' S' r → VW G M QQ E pc lc st k z S r) (h : V G M QQ E b pc' lc' st' k' z' S' X) : V G M QQ E b pc lc st k z S X := fun h0 r hr => ⟨(h (hS h0) r hr).1, f h0 r (h (hS h0) r hr).2⟩
/-- an int field -/
theorem x_geti {q ci f idx : Nat} {ty : FieldType} {fin pl : Bool} (hd : decode M.2.1 pc = .ok (.getfield idx, 3)) (hF : FLD M.1 idx ci f 0 ty fin pl) (hK : aK q = .inr ci) (hq : Sp b S → q < S.1) (h : V G M QQ E b (pc + 3) lc (.int (gi S q f) :: st) k z S X) : V G M QQ E b pc lc (.ref q :: st) k z S X :=
  h.liftS id fun h0 r hV p e s m args below meth c H locs ls C hR hS hL => w_get (rest := st.map (cv G)) hF hK hd (hq h0) C hR (hV p e s m args below meth c H locs ls C hR hS hL)
/-- a field that holds a known cell -/
theorem x_getr {q q' ci f idx : Nat} {ty : FieldType} {fin pl : Bool} (hd : decode M.2.1 pc = .ok (.getfield idx, 3)) (hF : FLD M.1 idx ci f 2 ty fin pl) (hK : aK q = .inr ci) (hq : Sp b S → q < S.1) (hg : Sp b S → gr S q f = some q') (h : V G M QQ E b (pc + 3) lc (.ref q' :: st) k z S X) : V G M QQ E b pc lc (.ref q :: st) k z S X :=
  h.liftS id fun h0 r hV p e s m args below meth c H locs ls C hR hS hL => by
    refine w_get (rest := st.map (cv G)) hF hK hd (hq h0) C hR ?_
    have e1 : fv G S q 2 f = .ref (gB G + q') := by simp [fv, hg h0, rfB, va_rf]
    rw [e1]
    exact hV p e s m args below meth c H locs ls C hR hS hL
def obd {α : Type} (o : Option Nat) (f : Nat → Option α) : Option α := match o with
  | none => none
  | some q => f q
def oel {α : Type} (o : Option Nat) (x : Option α) (f : Nat → Option α) : Option α := match o with
  | none => x
  | some q => f q
/-- a field that holds a cell or null: null fails -/
theorem x_geto {q ci f idx : Nat} {ty : FieldType} {fin pl : Bool} {Y : Nat → Option α} (hd : decode M.2.1 pc = .ok (.getfield idx, 3)) (hF : FLD M.1 idx ci f 2 ty fin pl) (hK : aK q = .inr ci) (hq : Sp b S → q < S.1) (h : ∀ q', gr S q f = some q' → V G M QQ E b (pc + 3) lc (.ref q' :: st) k z S (Y q')) : V G M QQ E b pc lc (.ref q :: st) k z S (obd (gr S q f) Y) := by
  intro h0 r hr
  cases hg : gr S q f with
  | none => rw [hg] at hr; cases hr
  | some q' =>
    rw [hg] at hr
    exact x_getr hd hF hK hq (fun _ => hg) (h q' hg) h0 r hr
theorem x_puti {q ci f idx : Nat} {fin pl : Bool} {v : Int32} (hd : decode M.2.1 pc = .ok (.putfield idx, 3)) (hF : FLD M.1 idx ci f 0 .int fin pl) (hft : (ft ci)[f]? = some 0) (hK : aK q = .inr ci) (hq : Sp b S → q < S.1) (hfin : fin = true → M.2.2.2.2.1 = true ∧ (classes[ci]?).map (fun x => x.1) = some M.1) (hpl : fin = true → pl = true) (h : V G M QQ E b (pc + 3) lc st k z (si S q f v) X) : V G M QQ E b pc lc (.int v :: .ref q :: st) k z S X :=
  h.liftS (fun h0 => h0.si q f v) fun h0 r hV p e s m args below meth c H locs ls C hR hS hL => w_put (S' := si S q f v) (rest := st.map (cv G)) hF hK hd (hq h0) hfin hpl rfl rfl rfl (fvs_si v hft) (fun j hj => fcell_si hj) C hR hS (fun H1 locs1 hR1 hS1 => hV p e s m args below meth c H1 locs1 ls C hR1 hS1 hL)
theorem x_putz {q ci f idx : Nat} {fin pl : Bool} {v : Int32} (hd : decode M.2.1 pc = .ok (.putfield idx, 3)) (hF : FLD M.1 idx ci f 0 .boolean fin pl) (hv : v = 0 ∨ v = 1) (hft : (ft ci)[f]? = some 0) (hK : aK q = .inr ci) (hq : Sp b S → q < S.1) (hfin : fin = true → M.2.2.2.2.1 = true ∧ (classes[ci]?).map (fun x => x.1) = some M.1) (hpl : fin = true → pl = true) (h : V G M QQ E b (pc + 3) lc st k z (si S q f v) X) : V G M QQ E b pc lc (.int v :: .ref q :: st) k z S X :=
  h.liftS (fun h0 => h0.si q f v) fun h0 r hV p e s m args below meth c H locs ls C hR hS hL => w_put (S' := si S q f v) (rest := st.map (cv G)) hF hK hd (hq h0) hfin hpl (by rcases hv with rfl | rfl <;> rfl) (by rcases hv with rfl | rfl <;> rfl) rfl (fvs_si v hft) (fun j hj => fcell_si hj) C hR hS (fun H1 locs1 hR1 hS1 => hV p e s m args below meth c H1 locs1 ls C hR1 hS1 hL)
theorem x_putr {q q' ci f idx : Nat} {ty : FieldType} {fin pl : Bool} (hd : decode M.2.1 pc = .ok (.putfield idx, 3)) (hF : FLD M.1 idx ci f 2 ty fin pl) (hty : refKind ty = true) (hft : (ft ci)[f]? = some 2) (hK : aK q = .inr ci) (hq : Sp b S → q < S.1) (hfin : fin = true → M.2.2.2.2.1 = true ∧ (classes[ci]?).map (fun x => x.1) = some M.1) (hpl : fin = true → pl = true) (hsp : Sp b S → Sp b (sr S q f (some q'))) (h : V G M QQ E b (pc + 3) lc st k z (sr S q f (some q')) X) : V G M QQ E b pc lc (.ref q' :: .ref q :: st) k z S X :=
  h.liftS hsp fun h0 r hV p e s m args below meth c H locs ls C hR hS hL => w_put (S' := sr S q f (some q')) (rest := st.map (cv G)) (v := .ref (gB G + q')) hF hK hd (hq h0) hfin hpl (by cases ty <;> first | rfl | (simp [refKind] at hty)) (by cases ty <;> first | rfl | (simp [refKind] at hty)) rfl (fvs_sr (some q') hft) (fun j hj => fcell_sr hj) C hR hS (fun H1 locs1 hR1 hS1 => hV p e s m args below meth c H1 locs1 ls C hR1 hS1 hL)
end HEAP
