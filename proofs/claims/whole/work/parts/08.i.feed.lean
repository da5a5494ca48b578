/-! ## feed -/
theorem feed_s1 : ∀ k, k < 8 → (8 * nI k).toInt64.toUInt64 &&& Int64.toUInt64 63 = UInt64.ofNat (8 * k) ∧ (8 * nI k).toInt64 &&& 63 = Int64.ofNat (8 * k) := by decide +kernel
theorem feed_b3 (x : Int64) : ((((x.toUInt64 >>> (24 : UInt64)).toInt64).toInt32) &&& 255) = ((x >>> (24 : Int64)) &&& 255).toInt32 := by
  apply Int32.toBitVec_inj.1
  apply BitVec.eq_of_getLsbD_eq
  intro i hi
  simp [BitVec.getLsbD_signExtend, BitVec.getLsbD_sshiftRight]
  trace_state
  sorry
