/-! pure programs: small laws -/
theorem bI_eq {β : Type} (v : Int32) (S : AS) (kk : Int32 → AS → Option β) : bI (some (v, S)) kk = kk v S := rfl
theorem bL_eq {β : Type} (v : Int64) (S : AS) (kk : Int64 → AS → Option β) : bL (some (v, S)) kk = kk v S := rfl
theorem bR_eq {β : Type} (v : Nat) (S : AS) (kk : Nat → AS → Option β) : bR (some (v, S)) kk = kk v S := rfl
theorem bV_eq {β : Type} (S : AS) (kk : AS → Option β) : bV (some S) kk = kk S := rfl
theorem oel_some {α : Type} (q : Nat) (x : Option α) (f : Nat → Option α) : oel (some q) x f = f q := rfl
theorem oel_none {α : Type} (x : Option α) (f : Nat → Option α) : oel none x f = x := rfl
theorem obd_some {α : Type} (q : Nat) (f : Nat → Option α) : obd (some q) f = f q := rfl
theorem isb_0 : isb 0 := Or.inl rfl
theorem isb_1 : isb 1 := Or.inr rfl
theorem FU_succ : FU = 99999 + 1 := rfl
/-- cells that may differ: P; all else is the same, and so are the references -/
def fr (P : Nat → Nat → Prop) (S S' : AS) : Prop := S'.1 = S.1 ∧ (∀ c k, ¬ P c k → gi S' c k = gi S c k) ∧ (∀ c k, ¬ P c k → gl S' c k = gl S c k) ∧ (∀ c k, gr S' c k = gr S c k)
theorem fr_rf (P : Nat → Nat → Prop) (S : AS) : fr P S S := ⟨rfl, fun _ _ _ => rfl, fun _ _ _ => rfl, fun _ _ => rfl⟩
theorem fr.tr {P : Nat → Nat → Prop} {S T U : AS} (h : fr P S T) (h2 : fr P T U) : fr P S U := ⟨h2.1.trans h.1, fun c k hc => (h2.2.1 c k hc).trans (h.2.1 c k hc), fun c k hc => (h2.2.2.1 c k hc).trans (h.2.2.1 c k hc), fun c k => (h2.2.2.2 c k).trans (h.2.2.2 c k)⟩
theorem fr.mono {P Q : Nat → Nat → Prop} {S T : AS} (h : fr P S T) (hPQ : ∀ c k, P c k → Q c k) : fr Q S T := ⟨h.1, fun c k hc => h.2.1 c k (fun q => hc (hPQ c k q)), fun c k hc => h.2.2.1 c k (fun q => hc (hPQ c k q)), h.2.2.2⟩
theorem fr.si {P : Nat → Nat → Prop} {S T : AS} (h : fr P S T) {c k : Nat} {v : Int32} (hp : P c k) : fr P S (si T c k v) := ⟨h.1, fun a j hj => by
    rw [gi_si, if_neg (fun e => hj (by rw [e.1, e.2]; exact hp))]
    exact h.2.1 a j hj, fun a j hj => h.2.2.1 a j hj, fun a j => h.2.2.2 a j⟩
theorem fr.sl {P : Nat → Nat → Prop} {S T : AS} (h : fr P S T) {c k : Nat} {v : Int64} (hp : P c k) : fr P S (sl T c k v) := ⟨h.1, fun a j hj => h.2.1 a j hj, fun a j hj => by
    rw [gl_sl, if_neg (fun e => hj (by rw [e.1, e.2]; exact hp))]
    exact h.2.2.1 a j hj, fun a j => h.2.2.2 a j⟩
theorem fr.sa {P : Nat → Nat → Prop} {S T : AS} (h : fr P S T) {c : Nat} {f : Nat → Int32} (hp : ∀ k, P c k) : fr P S (sa T c f) := ⟨h.1, fun a j hj => by
    rw [gi_sa, if_neg (fun e => hj (by rw [e]; exact hp j))]
    exact h.2.1 a j hj, fun a j hj => h.2.2.1 a j hj, fun a j => h.2.2.2 a j⟩
theorem fr.sh {P : Nat → Nat → Prop} {S T : AS} (h : fr P S T) (hs : Sh S) : Sh T := Sh.congr h.1 (by
  funext c k
  exact h.2.2.2 c k) hs
/-! ints as numbers -/
theorem nI_sub1 {n : Nat} (h : 0 < n) : nI n - 1 = nI (n - 1) := by
  obtain ⟨m, rfl⟩ : ∃ m, n = m + 1 := ⟨n - 1, by omega⟩
  exact nI_pred m
theorem ix_nI {n : Nat} (h : n < 2147483648) : ix (nI n) = n := nI_clamp h
theorem in_nI {n N : Nat} (h : n < N) (hN : N < 2147483648) : vp_in (nI n) N := vp_in_nI h hN
theorem nI_add2 (a b : Nat) : nI a + nI b = nI (a + b) := nI_add a b
theorem nI_inj {a b : Nat} (ha : a < 2147483648) (hb : b < 2147483648) (h : nI a = nI b) : a = b := (nI_eq ha hb).mp h
theorem nI_ne_m1 {a : Nat} (ha : a < 2147483648) : ¬ nI a = -1 := by
  intro h
  have h2 := congrArg Int32.toInt h
  rw [nI_toInt ha] at h2
  have h3 : (-1 : Int32).toInt = -1 := by decide
  rw [h3] at h2
  omega
/-- an int that is at least 0 -/
theorem nn_of {x : Int32} (h : ¬ x < 0) : ∃ n : Nat, n < 2147483648 ∧ x = nI n := nI_of h
/-- a bounded int -/
theorem nn_le {x : Int32} {N : Nat} (hN : N < 2147483648) (h : ¬ x < 0) (h2 : ¬ nI N < x) : ∃ n : Nat, n ≤ N ∧ x = nI n := by
  obtain ⟨n, hn, rfl⟩ := nI_of h
  refine ⟨n, ?_, rfl⟩
  rcases Nat.lt_or_ge N n with q | q
  · exact absurd (nI_lt q hn) h2
  · exact q
theorem nn_lt {x : Int32} {N : Nat} (hN : N < 2147483648) (h : ¬ x < 0) (h2 : ¬ nI N ≤ x) : ∃ n : Nat, n < N ∧ x = nI n := by
  obtain ⟨n, hn, rfl⟩ := nI_of h
  refine ⟨n, ?_, rfl⟩
  rcases Nat.lt_or_ge n N with q | q
  · exact q
  · exact absurd (nI_le q hn) h2
