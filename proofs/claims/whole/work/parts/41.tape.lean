/-! the tape: feed, end -/
theorem sh_k {x s t : Int32} (k : Nat) (hs : (s.toBitVec.smod 32).toNat = k) (ht : ((t.toUInt32 &&& Int32.toUInt32 31).toBitVec % 32).toNat = k) (hk : k = 24 ∨ k = 16 ∨ k = 8 ∨ k = 0) : (x >>> s) &&& 255 = ((x.toUInt32 >>> (t.toUInt32 &&& Int32.toUInt32 31)).toInt32) &&& 255 := by
  rw [pk_and _ (m := 255) 8 (by decide), pk_and _ (m := 255) 8 (by decide), pk_ushr x t k ht]
  have h1 := pk_shr x s k hs
  congr 1
  have e1 : (x >>> s).toInt = ((x >>> s).toBitVec).toInt := rfl
  have e2 : x.toInt = x.toBitVec.toInt := rfl
  rw [e1, e2, BitVec.toInt_eq_toNat_cond, BitVec.toInt_eq_toNat_cond] at h1
  have b1 := (x >>> s).toBitVec.isLt
  have b2 := x.toBitVec.isLt
  generalize (x >>> s).toBitVec.toNat = u at *
  generalize x.toBitVec.toNat = w at *
  rw [Int.shiftRight_eq_div_pow] at h1
  rcases hk with rfl | rfl | rfl | rfl <;> simp only [Nat.reducePow] at h1 ⊢ <;> split at h1 <;> split at h1 <;> omega
