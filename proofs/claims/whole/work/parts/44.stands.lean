/-! STANDS -/
theorem lush_f : ∀ k : Fin 64, ((Int32.ofInt (k.1 : Int)).toInt64.toUInt64 &&& Int64.toUInt64 63).toBitVec = BitVec.ofNat 64 k.1 := by decide +kernel
theorem lush_e (x : Int64) {n : Nat} (hn : n < 64) : (w_lushr x (n : Int)).toBitVec = x.toBitVec >>> n := by
  unfold w_lushr
  show x.toBitVec >>> (((Int32.ofInt (n : Int)).toInt64.toUInt64 &&& Int64.toUInt64 63).toBitVec % 64) = _
  rw [lush_f ⟨n, hn⟩]
  apply BitVec.eq_of_toNat_eq
  rw [BitVec.toNat_ushiftRight, BitVec.ushiftRight_eq', BitVec.toNat_ushiftRight]
  congr 1
  simp
  omega
