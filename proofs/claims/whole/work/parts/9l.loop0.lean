/-! THE LAW: small things of its loop -/
theorem and31 (x : Int32) : ∃ k, k < 32 ∧ x &&& 31 = nI k := by
  refine ⟨(x &&& 31).toBitVec.toNat, ?_, ?_⟩
  · rw [Int32.toBitVec_and, BitVec.toNat_and]
    exact Nat.lt_of_le_of_lt Nat.and_le_right (by decide)
  · apply Int32.toBitVec_inj.mp
    show _ = BitVec.ofNat 32 _
    rw [BitVec.ofNat_toNat, BitVec.setWidth_eq]
theorem low6 : ∀ L, L < 6 → (nI L : Int32) - 6 < 0 := by decide +kernel
theorem lt6 {L i : Nat} (hL : L ≤ 3072) (hi : i ≤ 4000) : (nI L - 6 < nI i) ↔ L < i + 6 := by
  by_cases z : L < 6
  · refine ⟨fun _ => by omega, fun _ => Int32.lt_of_lt_of_le (low6 L z) ?_⟩
    exact Int32.not_lt.mp (nI_pos (by omega))
  · rw [show (6 : Int32) = nI 6 from rfl, pk_sub (by omega), nI_ltI (by omega) (by omega)]
    omega
