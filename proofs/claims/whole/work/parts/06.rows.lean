section ROWS
variable {G : GX} {M : MD} {α : Type} {QQ : QT α} {E : State → Prop} {b : Option (Option Nat)} {pc : Nat} {lc : List (Option Value)} {st : List Value} {k z : Nat} {S : AS} {X : Option α}
theorem x_iconst {n : Int} {v : Int32} (hd : decode M.2.1 pc = .ok (.iconst n, 1)) (hv : Int32.ofInt n = v) (h : V G M QQ E b (pc + 1) lc (.int v :: st) k z S X) : V G M QQ E b pc lc st k z S X :=
  h.lift id fun r hV p e s m args below meth c H locs ls C hR hS hL => lv_iconst C.1 C.2.1 hd hv (hV p e s m args below meth c H locs ls C hR hS hL)
theorem x_bipush {n : Int} {v : Int32} (hd : decode M.2.1 pc = .ok (.bipush n, 2)) (hv : (Int8.ofInt n).toInt32 = v) (h : V G M QQ E b (pc + 2) lc (.int v :: st) k z S X) : V G M QQ E b pc lc st k z S X :=
  h.lift id fun r hV p e s m args below meth c H locs ls C hR hS hL => lv_bipush C.1 C.2.1 hd hv (hV p e s m args below meth c H locs ls C hR hS hL)
theorem x_sipush {n : Int} {v : Int32} (hd : decode M.2.1 pc = .ok (.sipush n, 3)) (hv : (Int16.ofInt n).toInt32 = v) (h : V G M QQ E b (pc + 3) lc (.int v :: st) k z S X) : V G M QQ E b pc lc st k z S X :=
  h.lift id fun r hV p e s m args below meth c H locs ls C hR hS hL => lv_sipush C.1 C.2.1 hd hv (hV p e s m args below meth c H locs ls C hR hS hL)
theorem x_lconst0 (hd : decode M.2.1 pc = .ok (.lconst 0, 1)) (h : V G M QQ E b (pc + 1) lc (.long 0 :: st) k z S X) : V G M QQ E b pc lc st k z S X :=
  h.lift id fun r hV p e s m args below meth c H locs ls C hR hS hL => lv_lconst C.1 C.2.1 hd rfl (hV p e s m args below meth c H locs ls C hR hS hL)
theorem x_ldc {i : Nat} {v : Int32} (hw : Cond.constant M.1 i v ∈ lw_tbl) (hd : decode M.2.1 pc = .ok (.ldc i, 2)) (h : V G M QQ E b (pc + 2) lc (.int v :: st) k z S X) : V G M QQ E b pc lc st k z S X :=
  h.lift id fun r hV p e s m args below meth c H locs ls C hR hS hL => lv_ldc C.1 C.2.1 C.2.2.2.2.2.2.1 (C.2.2.2.2.2.2.2.1.1.use hw rfl) hd (hV p e s m args below meth c H locs ls C hR hS hL)
theorem x_ldc2 {i : Nat} {v : Int64} (hw : Cond.constantLong M.1 i v ∈ lw_tbl) (hd : decode M.2.1 pc = .ok (.ldc2_w i, 3)) (h : V G M QQ E b (pc + 3) lc (.long v :: st) k z S X) : V G M QQ E b pc lc st k z S X :=
  h.lift id fun r hV p e s m args below meth c H locs ls C hR hS hL => lv_ldc2 C.1 C.2.1 C.2.2.2.2.2.2.1 (C.2.2.2.2.2.2.2.1.1.use hw rfl) hd (hV p e s m args below meth c H locs ls C hR hS hL)
theorem x_iload {i : Nat} {v : Int32} (hd : decode M.2.1 pc = .ok (.iload i, 2)) (hl : lc[i]? = some (some (.int v))) (h : V G M QQ E b (pc + 2) lc (.int v :: st) k z S X) : V G M QQ E b pc lc st k z S X :=
  h.lift id fun r hV p e s m args below meth c H locs ls C hR hS hL => lv_iload C.1 C.2.1 hd (hL.2.2.2 _ _ hl) (hV p e s m args below meth c H locs ls C hR hS hL)
theorem x_iload_n {n : Fin 4} {v : Int32} (hd : decode M.2.1 pc = .ok (.iload_n n, 1)) (hl : lc[n.val]? = some (some (.int v))) (h : V G M QQ E b (pc + 1) lc (.int v :: st) k z S X) : V G M QQ E b pc lc st k z S X :=
  h.lift id fun r hV p e s m args below meth c H locs ls C hR hS hL => lv_iload_n C.1 C.2.1 hd rfl (hL.2.2.2 _ _ hl) (hV p e s m args below meth c H locs ls C hR hS hL)
theorem x_lload {i : Nat} {v : Int64} (hd : decode M.2.1 pc = .ok (.lload i, 2)) (hl : lc[i]? = some (some (.long v))) (h : V G M QQ E b (pc + 2) lc (.long v :: st) k z S X) : V G M QQ E b pc lc st k z S X :=
  h.lift id fun r hV p e s m args below meth c H locs ls C hR hS hL => lv_lload C.1 C.2.1 hd (hL.2.2.2 _ _ hl) (hV p e s m args below meth c H locs ls C hR hS hL)
theorem x_lload_n {n : Fin 4} {v : Int64} (hd : decode M.2.1 pc = .ok (.lload_n n, 1)) (hl : lc[n.val]? = some (some (.long v))) (h : V G M QQ E b (pc + 1) lc (.long v :: st) k z S X) : V G M QQ E b pc lc st k z S X :=
  h.lift id fun r hV p e s m args below meth c H locs ls C hR hS hL => lv_lload_n C.1 C.2.1 hd rfl (hL.2.2.2 _ _ hl) (hV p e s m args below meth c H locs ls C hR hS hL)
theorem x_aload_ref {i q : Nat} (hd : decode M.2.1 pc = .ok (.aload i, 2)) (hl : lc[i]? = some (some (.ref q))) (h : V G M QQ E b (pc + 2) lc ((.ref q) :: st) k z S X) : V G M QQ E b pc lc st k z S X :=
  h.lift id fun r hV p e s m args below meth c H locs ls C hR hS hL => lv_aload C.1 C.2.1 hd (hL.2.2.2 _ _ hl) (hV p e s m args below meth c H locs ls C hR hS hL)
theorem x_aload_n_ref {n : Fin 4} {q : Nat} (hd : decode M.2.1 pc = .ok (.aload_n n, 1)) (hl : lc[n.val]? = some (some (.ref q))) (h : V G M QQ E b (pc + 1) lc ((.ref q) :: st) k z S X) : V G M QQ E b pc lc st k z S X :=
  h.lift id fun r hV p e s m args below meth c H locs ls C hR hS hL => lv_aload_n C.1 C.2.1 hd rfl (hL.2.2.2 _ _ hl) (hV p e s m args below meth c H locs ls C hR hS hL)
theorem x_aload_ext {i q : Nat} (hd : decode M.2.1 pc = .ok (.aload i, 2)) (hl : lc[i]? = some (some (.retAddr q))) (h : V G M QQ E b (pc + 2) lc ((.retAddr q) :: st) k z S X) : V G M QQ E b pc lc st k z S X :=
  h.lift id fun r hV p e s m args below meth c H locs ls C hR hS hL => lv_aload C.1 C.2.1 hd (hL.2.2.2 _ _ hl) (hV p e s m args below meth c H locs ls C hR hS hL)
theorem x_aload_n_ext {n : Fin 4} {q : Nat} (hd : decode M.2.1 pc = .ok (.aload_n n, 1)) (hl : lc[n.val]? = some (some (.retAddr q))) (h : V G M QQ E b (pc + 1) lc ((.retAddr q) :: st) k z S X) : V G M QQ E b pc lc st k z S X :=
  h.lift id fun r hV p e s m args below meth c H locs ls C hR hS hL => lv_aload_n C.1 C.2.1 hd rfl (hL.2.2.2 _ _ hl) (hV p e s m args below meth c H locs ls C hR hS hL)
theorem x_istore {i : Nat} {v : Int32} {lc' : List (Option Value)} (hd : decode M.2.1 pc = .ok (.istore i, 2)) (hn : i < M.2.2.1) (hl : st1 lc i (.int v) = lc') (h : V G M QQ E b (pc + 2) lc' st k z S X) : V G M QQ E b pc lc ((.int v) :: st) k z S X :=
  h.lift id fun r hV p e s m args below meth c H locs ls C hR hS hL => lv_istore C.1 C.2.1 hd hL.has hn rfl (fun ls2 h2 => hV p e s m args below meth c H locs ls2 C hR hS (hl ▸ hL.of1 h2))
theorem x_istore_n {n : Fin 4} {v : Int32} {lc' : List (Option Value)} (hd : decode M.2.1 pc = .ok (.istore_n n, 1)) (hn : n.val < M.2.2.1) (hl : st1 lc n.val (.int v) = lc') (h : V G M QQ E b (pc + 1) lc' st k z S X) : V G M QQ E b pc lc ((.int v) :: st) k z S X :=
  h.lift id fun r hV p e s m args below meth c H locs ls C hR hS hL => lv_istore_n C.1 C.2.1 hd rfl hL.has hn rfl (fun ls2 h2 => hV p e s m args below meth c H locs ls2 C hR hS (hl ▸ hL.of1 h2))
theorem x_lstore {i : Nat} {v : Int64} {lc' : List (Option Value)} (hd : decode M.2.1 pc = .ok (.lstore i, 2)) (hn : i + 1 < M.2.2.1) (hl : st2 lc i (.long v) = lc') (h : V G M QQ E b (pc + 2) lc' st k z S X) : V G M QQ E b pc lc ((.long v) :: st) k z S X :=
  h.lift id fun r hV p e s m args below meth c H locs ls C hR hS hL => lv_lstore C.1 C.2.1 hd hL.has hn rfl (fun ls2 h2 => hV p e s m args below meth c H locs ls2 C hR hS (hl ▸ hL.of2 h2))
theorem x_lstore_n {n : Fin 4} {v : Int64} {lc' : List (Option Value)} (hd : decode M.2.1 pc = .ok (.lstore_n n, 1)) (hn : n.val + 1 < M.2.2.1) (hl : st2 lc n.val (.long v) = lc') (h : V G M QQ E b (pc + 1) lc' st k z S X) : V G M QQ E b pc lc ((.long v) :: st) k z S X :=
  h.lift id fun r hV p e s m args below meth c H locs ls C hR hS hL => lv_lstore_n C.1 C.2.1 hd rfl hL.has hn rfl (fun ls2 h2 => hV p e s m args below meth c H locs ls2 C hR hS (hl ▸ hL.of2 h2))
theorem x_astore {i : Nat} {v : Nat} {lc' : List (Option Value)} (hd : decode M.2.1 pc = .ok (.astore i, 2)) (hn : i < M.2.2.1) (hl : st1 lc i (.ref v) = lc') (h : V G M QQ E b (pc + 2) lc' st k z S X) : V G M QQ E b pc lc ((.ref v) :: st) k z S X :=
  h.lift id fun r hV p e s m args below meth c H locs ls C hR hS hL => lv_astore C.1 C.2.1 hd hL.has hn rfl (fun ls2 h2 => hV p e s m args below meth c H locs ls2 C hR hS (hl ▸ hL.of1 h2))
theorem x_astore_n {n : Fin 4} {v : Nat} {lc' : List (Option Value)} (hd : decode M.2.1 pc = .ok (.astore_n n, 1)) (hn : n.val < M.2.2.1) (hl : st1 lc n.val (.ref v) = lc') (h : V G M QQ E b (pc + 1) lc' st k z S X) : V G M QQ E b pc lc ((.ref v) :: st) k z S X :=
  h.lift id fun r hV p e s m args below meth c H locs ls C hR hS hL => lv_astore_n C.1 C.2.1 hd rfl hL.has hn rfl (fun ls2 h2 => hV p e s m args below meth c H locs ls2 C hR hS (hl ▸ hL.of1 h2))
theorem x_iinc {i : Nat} {n : Int} {v w : Int32} {lc' : List (Option Value)} (hd : decode M.2.1 pc = .ok (.iinc i n, 3)) (hn : i < M.2.2.1) (hg : lc[i]? = some (some (.int v))) (hv : v + Int32.ofInt n = w) (hl : st1 lc i (.int w) = lc') (h : V G M QQ E b (pc + 3) lc' st k z S X) : V G M QQ E b pc lc st k z S X :=
  h.lift id fun r hV p e s m args below meth c H locs ls C hR hS hL => by
    obtain ⟨kk, hkk⟩ := List.getElem?_of_mem (lrl_mem.mpr ⟨.int v, hg, rfl⟩ : (i, cv G (.int v)) ∈ lrl G lc)
    exact lv_iinc C.1 C.2.1 hd hL.has hkk hv hn rfl (fun ls2 h2 => hV p e s m args below meth c H locs ls2 C hR hS (hl ▸ hL.of1 h2))
theorem x_iadd {x y : Int32} (hd : decode M.2.1 pc = .ok (.iadd, 1)) (h : V G M QQ E b (pc + 1) lc (.int (x + y) :: st) k z S X) : V G M QQ E b pc lc (.int y :: .int x :: st) k z S X :=
  h.lift id fun r hV p e s m args below meth c H locs ls C hR hS hL => lv_iadd C.1 C.2.1 hd (hV p e s m args below meth c H locs ls C hR hS hL)
theorem x_isub {x y : Int32} (hd : decode M.2.1 pc = .ok (.isub, 1)) (h : V G M QQ E b (pc + 1) lc (.int (x - y) :: st) k z S X) : V G M QQ E b pc lc (.int y :: .int x :: st) k z S X :=
  h.lift id fun r hV p e s m args below meth c H locs ls C hR hS hL => lv_isub C.1 C.2.1 hd (hV p e s m args below meth c H locs ls C hR hS hL)
theorem x_imul {x y : Int32} (hd : decode M.2.1 pc = .ok (.imul, 1)) (h : V G M QQ E b (pc + 1) lc (.int (x * y) :: st) k z S X) : V G M QQ E b pc lc (.int y :: .int x :: st) k z S X :=
  h.lift id fun r hV p e s m args below meth c H locs ls C hR hS hL => lv_imul C.1 C.2.1 hd (hV p e s m args below meth c H locs ls C hR hS hL)
theorem x_iand {x y : Int32} (hd : decode M.2.1 pc = .ok (.iand, 1)) (h : V G M QQ E b (pc + 1) lc (.int (x &&& y) :: st) k z S X) : V G M QQ E b pc lc (.int y :: .int x :: st) k z S X :=
  h.lift id fun r hV p e s m args below meth c H locs ls C hR hS hL => lv_iand C.1 C.2.1 hd (hV p e s m args below meth c H locs ls C hR hS hL)
theorem x_idiv {x y : Int32}(hne : ¬ y = 0) (hd : decode M.2.1 pc = .ok (.idiv, 1)) (h : V G M QQ E b (pc + 1) lc (.int (x / y) :: st) k z S X) : V G M QQ E b pc lc (.int y :: .int x :: st) k z S X :=
  h.lift id fun r hV p e s m args below meth c H locs ls C hR hS hL => lv_idiv C.1 C.2.1 hd hne (hV p e s m args below meth c H locs ls C hR hS hL)
theorem x_ishr {x y : Int32} (hd : decode M.2.1 pc = .ok (.ishr, 1)) (h : V G M QQ E b (pc + 1) lc (.int (x >>> (y &&& 31)) :: st) k z S X) : V G M QQ E b pc lc (.int y :: .int x :: st) k z S X :=
  h.lift id fun r hV p e s m args below meth c H locs ls C hR hS hL => lv_ishr C.1 C.2.1 hd (hV p e s m args below meth c H locs ls C hR hS hL)
theorem x_iushr {x y : Int32} (hd : decode M.2.1 pc = .ok (.iushr, 1)) (h : V G M QQ E b (pc + 1) lc (.int (x.toUInt32 >>> (y.toUInt32 &&& Int32.toUInt32 31)).toInt32 :: st) k z S X) : V G M QQ E b pc lc (.int y :: .int x :: st) k z S X :=
  h.lift id fun r hV p e s m args below meth c H locs ls C hR hS hL => lv_iushr C.1 C.2.1 hd rfl (hV p e s m args below meth c H locs ls C hR hS hL)
theorem x_ladd {x y : Int64} (hd : decode M.2.1 pc = .ok (.ladd, 1)) (h : V G M QQ E b (pc + 1) lc (.long (x + y) :: st) k z S X) : V G M QQ E b pc lc (.long y :: .long x :: st) k z S X :=
  h.lift id fun r hV p e s m args below meth c H locs ls C hR hS hL => lv_ladd C.1 C.2.1 hd (hV p e s m args below meth c H locs ls C hR hS hL)
theorem x_lmul {x y : Int64} (hd : decode M.2.1 pc = .ok (.lmul, 1)) (h : V G M QQ E b (pc + 1) lc (.long (x * y) :: st) k z S X) : V G M QQ E b pc lc (.long y :: .long x :: st) k z S X :=
  h.lift id fun r hV p e s m args below meth c H locs ls C hR hS hL => lv_lmul C.1 C.2.1 hd (hV p e s m args below meth c H locs ls C hR hS hL)
theorem x_land {x y : Int64} (hd : decode M.2.1 pc = .ok (.land, 1)) (h : V G M QQ E b (pc + 1) lc (.long (x &&& y) :: st) k z S X) : V G M QQ E b pc lc (.long y :: .long x :: st) k z S X :=
  h.lift id fun r hV p e s m args below meth c H locs ls C hR hS hL => lv_land C.1 C.2.1 hd (hV p e s m args below meth c H locs ls C hR hS hL)
theorem x_ldiv {x y : Int64}(hne : ¬ y = 0) (hd : decode M.2.1 pc = .ok (.ldiv, 1)) (h : V G M QQ E b (pc + 1) lc (.long (x / y) :: st) k z S X) : V G M QQ E b pc lc (.long y :: .long x :: st) k z S X :=
  h.lift id fun r hV p e s m args below meth c H locs ls C hR hS hL => lv_ldiv C.1 C.2.1 hd hne (hV p e s m args below meth c H locs ls C hR hS hL)
theorem x_lcmp {x y : Int64} (hd : decode M.2.1 pc = .ok (.lcmp, 1)) (h : V G M QQ E b (pc + 1) lc (.int (lg_cmp x y) :: st) k z S X) : V G M QQ E b pc lc (.long y :: .long x :: st) k z S X :=
  h.lift id fun r hV p e s m args below meth c H locs ls C hR hS hL => W.lcmp C.1 C.2.1 hd (hV p e s m args below meth c H locs ls C hR hS hL)
theorem x_lushr {x : Int64} {y : Int32} (hd : decode M.2.1 pc = .ok (.lushr, 1)) (h : V G M QQ E b (pc + 1) lc (.long (x.toUInt64 >>> (y.toInt64.toUInt64 &&& Int64.toUInt64 63)).toInt64 :: st) k z S X) : V G M QQ E b pc lc (.int y :: .long x :: st) k z S X :=
  h.lift id fun r hV p e s m args below meth c H locs ls C hR hS hL => lv_lushr C.1 C.2.1 hd rfl (hV p e s m args below meth c H locs ls C hR hS hL)
theorem x_ineg {x : Int32} (hd : decode M.2.1 pc = .ok (.ineg, 1)) (h : V G M QQ E b (pc + 1) lc (.int (-x) :: st) k z S X) : V G M QQ E b pc lc (.int x :: st) k z S X :=
  h.lift id fun r hV p e s m args below meth c H locs ls C hR hS hL => lv_ineg C.1 C.2.1 hd (hV p e s m args below meth c H locs ls C hR hS hL)
theorem x_i2l {x : Int32} (hd : decode M.2.1 pc = .ok (.i2l, 1)) (h : V G M QQ E b (pc + 1) lc (.long x.toInt64 :: st) k z S X) : V G M QQ E b pc lc (.int x :: st) k z S X :=
  h.lift id fun r hV p e s m args below meth c H locs ls C hR hS hL => lv_i2l C.1 C.2.1 hd rfl (hV p e s m args below meth c H locs ls C hR hS hL)
theorem x_l2i {x : Int64} (hd : decode M.2.1 pc = .ok (.l2i, 1)) (h : V G M QQ E b (pc + 1) lc (.int x.toInt32 :: st) k z S X) : V G M QQ E b pc lc (.long x :: st) k z S X :=
  h.lift id fun r hV p e s m args below meth c H locs ls C hR hS hL => lv_l2i C.1 C.2.1 hd rfl (hV p e s m args below meth c H locs ls C hR hS hL)
theorem x_dup {v : Value} (hd : decode M.2.1 pc = .ok (.dup, 1)) (hc : v.category = 1) (h : V G M QQ E b (pc + 1) lc (v :: v :: st) k z S X) : V G M QQ E b pc lc (v :: st) k z S X :=
  h.lift id fun r hV p e s m args below meth c H locs ls C hR hS hL => lv_dup C.1 C.2.1 hd ((cv_cat G v).trans hc) (hV p e s m args below meth c H locs ls C hR hS hL)
theorem x_pop {v : Value} (hd : decode M.2.1 pc = .ok (.pop, 1)) (hc : v.category = 1) (h : V G M QQ E b (pc + 1) lc st k z S X) : V G M QQ E b pc lc (v :: st) k z S X :=
  h.lift id fun r hV p e s m args below meth c H locs ls C hR hS hL => lv_pop C.1 C.2.1 hd ((cv_cat G v).trans hc) (hV p e s m args below meth c H locs ls C hR hS hL)
theorem x_dup2 {v w : Value} (hd : decode M.2.1 pc = .ok (.dup2, 1)) (hc : v.category = 1) (hc2 : w.category = 1) (h : V G M QQ E b (pc + 1) lc (v :: w :: v :: w :: st) k z S X) : V G M QQ E b pc lc (v :: w :: st) k z S X :=
  h.lift id fun r hV p e s m args below meth c H locs ls C hR hS hL => lv_dup2_11 C.1 C.2.1 hd ((cv_cat G v).trans hc) ((cv_cat G w).trans hc2) (hV p e s m args below meth c H locs ls C hR hS hL)
theorem x_goto {off : Int} {tgt : Nat} (hd : decode M.2.1 pc = .ok (.goto off, 3)) (ht : (pc : Int) + off = (tgt : Int)) (h : V G M QQ E b tgt lc st k z S X) : V G M QQ E b pc lc st k z S X :=
  h.lift id fun r hV p e s m args below meth c H locs ls C hR hS hL => lv_goto C.1 C.2.1 hd ht (hV p e s m args below meth c H locs ls C hR hS hL)
theorem x_if_eq {x : Int32} {off : Int} {tgt : Nat} {Y : Option α} (hd : decode M.2.1 pc = .ok (.ifCond .eq off, 3)) (ht : (pc : Int) + off = (tgt : Int)) (h1 : (x = 0) → V G M QQ E b tgt lc st k z S X) (h2 : ¬ (x = 0) → V G M QQ E b (pc + 3) lc st k z S Y) : V G M QQ E b pc lc (.int x :: st) k z S (if (x = 0) then X else Y) := by
  intro h0 r hr
  by_cases hc : (x = 0)
  · rw [if_pos hc] at hr
    have a := h1 hc h0 r hr
    exact ⟨a.1, fun p e s m args below meth c H locs ls C hR hS hL => lv_if_eq C.1 C.2.1 hd ht (fun _ => a.2 p e s m args below meth c H locs ls C hR hS hL) (fun n => absurd hc n)⟩
  · rw [if_neg hc] at hr
    have a := h2 hc h0 r hr
    exact ⟨a.1, fun p e s m args below meth c H locs ls C hR hS hL => lv_if_eq C.1 C.2.1 hd ht (fun n => absurd n hc) (fun _ => a.2 p e s m args below meth c H locs ls C hR hS hL)⟩
theorem x_icmp_eq {x y : Int32} {off : Int} {tgt : Nat} {Y : Option α} (hd : decode M.2.1 pc = .ok (.if_icmp .eq off, 3)) (ht : (pc : Int) + off = (tgt : Int)) (h1 : (x = y) → V G M QQ E b tgt lc st k z S X) (h2 : ¬ (x = y) → V G M QQ E b (pc + 3) lc st k z S Y) : V G M QQ E b pc lc (.int y :: .int x :: st) k z S (if (x = y) then X else Y) := by
  intro h0 r hr
  by_cases hc : (x = y)
  · rw [if_pos hc] at hr
    have a := h1 hc h0 r hr
    exact ⟨a.1, fun p e s m args below meth c H locs ls C hR hS hL => lv_icmp_eq C.1 C.2.1 hd ht (fun _ => a.2 p e s m args below meth c H locs ls C hR hS hL) (fun n => absurd hc n)⟩
  · rw [if_neg hc] at hr
    have a := h2 hc h0 r hr
    exact ⟨a.1, fun p e s m args below meth c H locs ls C hR hS hL => lv_icmp_eq C.1 C.2.1 hd ht (fun n => absurd n hc) (fun _ => a.2 p e s m args below meth c H locs ls C hR hS hL)⟩
theorem x_if_ne {x : Int32} {off : Int} {tgt : Nat} {Y : Option α} (hd : decode M.2.1 pc = .ok (.ifCond .ne off, 3)) (ht : (pc : Int) + off = (tgt : Int)) (h1 : ¬ x = 0 → V G M QQ E b tgt lc st k z S X) (h2 : x = 0 → V G M QQ E b (pc + 3) lc st k z S Y) : V G M QQ E b pc lc (.int x :: st) k z S (if x = 0 then Y else X) := by
  intro h0 r hr
  by_cases hc : x = 0
  · rw [if_pos hc] at hr
    have a := h2 hc h0 r hr
    exact ⟨a.1, fun p e s m args below meth c H locs ls C hR hS hL => lv_if_ne C.1 C.2.1 hd ht (fun n => absurd hc n) (fun _ => a.2 p e s m args below meth c H locs ls C hR hS hL)⟩
  · rw [if_neg hc] at hr
    have a := h1 hc h0 r hr
    exact ⟨a.1, fun p e s m args below meth c H locs ls C hR hS hL => lv_if_ne C.1 C.2.1 hd ht (fun _ => a.2 p e s m args below meth c H locs ls C hR hS hL) (fun n => absurd n hc)⟩
theorem x_icmp_ne {x y : Int32} {off : Int} {tgt : Nat} {Y : Option α} (hd : decode M.2.1 pc = .ok (.if_icmp .ne off, 3)) (ht : (pc : Int) + off = (tgt : Int)) (h1 : ¬ x = y → V G M QQ E b tgt lc st k z S X) (h2 : x = y → V G M QQ E b (pc + 3) lc st k z S Y) : V G M QQ E b pc lc (.int y :: .int x :: st) k z S (if x = y then Y else X) := by
  intro h0 r hr
  by_cases hc : x = y
  · rw [if_pos hc] at hr
    have a := h2 hc h0 r hr
    exact ⟨a.1, fun p e s m args below meth c H locs ls C hR hS hL => lv_icmp_ne C.1 C.2.1 hd ht (fun n => absurd hc n) (fun _ => a.2 p e s m args below meth c H locs ls C hR hS hL)⟩
  · rw [if_neg hc] at hr
    have a := h1 hc h0 r hr
    exact ⟨a.1, fun p e s m args below meth c H locs ls C hR hS hL => lv_icmp_ne C.1 C.2.1 hd ht (fun _ => a.2 p e s m args below meth c H locs ls C hR hS hL) (fun n => absurd n hc)⟩
theorem x_if_lt {x : Int32} {off : Int} {tgt : Nat} {Y : Option α} (hd : decode M.2.1 pc = .ok (.ifCond .lt off, 3)) (ht : (pc : Int) + off = (tgt : Int)) (h1 : (x < 0) → V G M QQ E b tgt lc st k z S X) (h2 : ¬ (x < 0) → V G M QQ E b (pc + 3) lc st k z S Y) : V G M QQ E b pc lc (.int x :: st) k z S (if (x < 0) then X else Y) := by
  intro h0 r hr
  by_cases hc : (x < 0)
  · rw [if_pos hc] at hr
    have a := h1 hc h0 r hr
    exact ⟨a.1, fun p e s m args below meth c H locs ls C hR hS hL => lv_if_lt C.1 C.2.1 hd ht (fun _ => a.2 p e s m args below meth c H locs ls C hR hS hL) (fun n => absurd hc n)⟩
  · rw [if_neg hc] at hr
    have a := h2 hc h0 r hr
    exact ⟨a.1, fun p e s m args below meth c H locs ls C hR hS hL => lv_if_lt C.1 C.2.1 hd ht (fun n => absurd n hc) (fun _ => a.2 p e s m args below meth c H locs ls C hR hS hL)⟩
theorem x_icmp_lt {x y : Int32} {off : Int} {tgt : Nat} {Y : Option α} (hd : decode M.2.1 pc = .ok (.if_icmp .lt off, 3)) (ht : (pc : Int) + off = (tgt : Int)) (h1 : (x < y) → V G M QQ E b tgt lc st k z S X) (h2 : ¬ (x < y) → V G M QQ E b (pc + 3) lc st k z S Y) : V G M QQ E b pc lc (.int y :: .int x :: st) k z S (if (x < y) then X else Y) := by
  intro h0 r hr
  by_cases hc : (x < y)
  · rw [if_pos hc] at hr
    have a := h1 hc h0 r hr
    exact ⟨a.1, fun p e s m args below meth c H locs ls C hR hS hL => lv_icmp_lt C.1 C.2.1 hd ht (fun _ => a.2 p e s m args below meth c H locs ls C hR hS hL) (fun n => absurd hc n)⟩
  · rw [if_neg hc] at hr
    have a := h2 hc h0 r hr
    exact ⟨a.1, fun p e s m args below meth c H locs ls C hR hS hL => lv_icmp_lt C.1 C.2.1 hd ht (fun n => absurd n hc) (fun _ => a.2 p e s m args below meth c H locs ls C hR hS hL)⟩
theorem x_if_ge {x : Int32} {off : Int} {tgt : Nat} {Y : Option α} (hd : decode M.2.1 pc = .ok (.ifCond .ge off, 3)) (ht : (pc : Int) + off = (tgt : Int)) (h1 : (0 ≤ x) → V G M QQ E b tgt lc st k z S X) (h2 : ¬ (0 ≤ x) → V G M QQ E b (pc + 3) lc st k z S Y) : V G M QQ E b pc lc (.int x :: st) k z S (if (0 ≤ x) then X else Y) := by
  intro h0 r hr
  by_cases hc : (0 ≤ x)
  · rw [if_pos hc] at hr
    have a := h1 hc h0 r hr
    exact ⟨a.1, fun p e s m args below meth c H locs ls C hR hS hL => lv_if_ge C.1 C.2.1 hd ht (fun _ => a.2 p e s m args below meth c H locs ls C hR hS hL) (fun n => absurd hc n)⟩
  · rw [if_neg hc] at hr
    have a := h2 hc h0 r hr
    exact ⟨a.1, fun p e s m args below meth c H locs ls C hR hS hL => lv_if_ge C.1 C.2.1 hd ht (fun n => absurd n hc) (fun _ => a.2 p e s m args below meth c H locs ls C hR hS hL)⟩
theorem x_icmp_ge {x y : Int32} {off : Int} {tgt : Nat} {Y : Option α} (hd : decode M.2.1 pc = .ok (.if_icmp .ge off, 3)) (ht : (pc : Int) + off = (tgt : Int)) (h1 : (y ≤ x) → V G M QQ E b tgt lc st k z S X) (h2 : ¬ (y ≤ x) → V G M QQ E b (pc + 3) lc st k z S Y) : V G M QQ E b pc lc (.int y :: .int x :: st) k z S (if (y ≤ x) then X else Y) := by
  intro h0 r hr
  by_cases hc : (y ≤ x)
  · rw [if_pos hc] at hr
    have a := h1 hc h0 r hr
    exact ⟨a.1, fun p e s m args below meth c H locs ls C hR hS hL => lv_icmp_ge C.1 C.2.1 hd ht (fun _ => a.2 p e s m args below meth c H locs ls C hR hS hL) (fun n => absurd hc n)⟩
  · rw [if_neg hc] at hr
    have a := h2 hc h0 r hr
    exact ⟨a.1, fun p e s m args below meth c H locs ls C hR hS hL => lv_icmp_ge C.1 C.2.1 hd ht (fun n => absurd n hc) (fun _ => a.2 p e s m args below meth c H locs ls C hR hS hL)⟩
theorem x_if_gt {x : Int32} {off : Int} {tgt : Nat} {Y : Option α} (hd : decode M.2.1 pc = .ok (.ifCond .gt off, 3)) (ht : (pc : Int) + off = (tgt : Int)) (h1 : (0 < x) → V G M QQ E b tgt lc st k z S X) (h2 : ¬ (0 < x) → V G M QQ E b (pc + 3) lc st k z S Y) : V G M QQ E b pc lc (.int x :: st) k z S (if (0 < x) then X else Y) := by
  intro h0 r hr
  by_cases hc : (0 < x)
  · rw [if_pos hc] at hr
    have a := h1 hc h0 r hr
    exact ⟨a.1, fun p e s m args below meth c H locs ls C hR hS hL => lv_if_gt C.1 C.2.1 hd ht (fun _ => a.2 p e s m args below meth c H locs ls C hR hS hL) (fun n => absurd hc n)⟩
  · rw [if_neg hc] at hr
    have a := h2 hc h0 r hr
    exact ⟨a.1, fun p e s m args below meth c H locs ls C hR hS hL => lv_if_gt C.1 C.2.1 hd ht (fun n => absurd n hc) (fun _ => a.2 p e s m args below meth c H locs ls C hR hS hL)⟩
theorem x_icmp_gt {x y : Int32} {off : Int} {tgt : Nat} {Y : Option α} (hd : decode M.2.1 pc = .ok (.if_icmp .gt off, 3)) (ht : (pc : Int) + off = (tgt : Int)) (h1 : (y < x) → V G M QQ E b tgt lc st k z S X) (h2 : ¬ (y < x) → V G M QQ E b (pc + 3) lc st k z S Y) : V G M QQ E b pc lc (.int y :: .int x :: st) k z S (if (y < x) then X else Y) := by
  intro h0 r hr
  by_cases hc : (y < x)
  · rw [if_pos hc] at hr
    have a := h1 hc h0 r hr
    exact ⟨a.1, fun p e s m args below meth c H locs ls C hR hS hL => lv_icmp_gt C.1 C.2.1 hd ht (fun _ => a.2 p e s m args below meth c H locs ls C hR hS hL) (fun n => absurd hc n)⟩
  · rw [if_neg hc] at hr
    have a := h2 hc h0 r hr
    exact ⟨a.1, fun p e s m args below meth c H locs ls C hR hS hL => lv_icmp_gt C.1 C.2.1 hd ht (fun n => absurd n hc) (fun _ => a.2 p e s m args below meth c H locs ls C hR hS hL)⟩
theorem x_if_le {x : Int32} {off : Int} {tgt : Nat} {Y : Option α} (hd : decode M.2.1 pc = .ok (.ifCond .le off, 3)) (ht : (pc : Int) + off = (tgt : Int)) (h1 : (x ≤ 0) → V G M QQ E b tgt lc st k z S X) (h2 : ¬ (x ≤ 0) → V G M QQ E b (pc + 3) lc st k z S Y) : V G M QQ E b pc lc (.int x :: st) k z S (if (x ≤ 0) then X else Y) := by
  intro h0 r hr
  by_cases hc : (x ≤ 0)
  · rw [if_pos hc] at hr
    have a := h1 hc h0 r hr
    exact ⟨a.1, fun p e s m args below meth c H locs ls C hR hS hL => lv_if_le C.1 C.2.1 hd ht (fun _ => a.2 p e s m args below meth c H locs ls C hR hS hL) (fun n => absurd hc n)⟩
  · rw [if_neg hc] at hr
    have a := h2 hc h0 r hr
    exact ⟨a.1, fun p e s m args below meth c H locs ls C hR hS hL => lv_if_le C.1 C.2.1 hd ht (fun n => absurd n hc) (fun _ => a.2 p e s m args below meth c H locs ls C hR hS hL)⟩
theorem x_icmp_le {x y : Int32} {off : Int} {tgt : Nat} {Y : Option α} (hd : decode M.2.1 pc = .ok (.if_icmp .le off, 3)) (ht : (pc : Int) + off = (tgt : Int)) (h1 : (x ≤ y) → V G M QQ E b tgt lc st k z S X) (h2 : ¬ (x ≤ y) → V G M QQ E b (pc + 3) lc st k z S Y) : V G M QQ E b pc lc (.int y :: .int x :: st) k z S (if (x ≤ y) then X else Y) := by
  intro h0 r hr
  by_cases hc : (x ≤ y)
  · rw [if_pos hc] at hr
    have a := h1 hc h0 r hr
    exact ⟨a.1, fun p e s m args below meth c H locs ls C hR hS hL => lv_icmp_le C.1 C.2.1 hd ht (fun _ => a.2 p e s m args below meth c H locs ls C hR hS hL) (fun n => absurd hc n)⟩
  · rw [if_neg hc] at hr
    have a := h2 hc h0 r hr
    exact ⟨a.1, fun p e s m args below meth c H locs ls C hR hS hL => lv_icmp_le C.1 C.2.1 hd ht (fun n => absurd n hc) (fun _ => a.2 p e s m args below meth c H locs ls C hR hS hL)⟩
end ROWS
