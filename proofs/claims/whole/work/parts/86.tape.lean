/-! bytes of numbers -/
theorem nI_all (r : Int32) : ∃ n, n < 2 ^ 32 ∧ r = nI n := ⟨r.toBitVec.toNat, r.toBitVec.isLt, by
  apply Int32.toBitVec_inj.mp
  show r.toBitVec = BitVec.ofNat 32 r.toBitVec.toNat
  rw [BitVec.ofNat_toNat, BitVec.setWidth_eq]⟩
theorem and255 (r : Int32) : ∃ n, n < 256 ∧ r &&& nI 255 = nI n := by
  obtain ⟨n, h, rfl⟩ := nI_all r
  exact ⟨n % 2 ^ 8, Nat.mod_lt _ (by decide), pk_andN h 8 (by decide +kernel)⟩
theorem bv_shr (x : BitVec 32) {s : Nat} (hs : s ≤ 24) : x.sshiftRight s &&& 255#32 = x >>> s &&& 255#32 := by
  apply BitVec.eq_of_getLsbD_eq
  intro i hi
  rw [BitVec.getLsbD_and, BitVec.getLsbD_and]
  by_cases h8 : i < 8
  · rw [BitVec.getLsbD_sshiftRight, BitVec.getLsbD_ushiftRight]
    simp [show s + i < 32 by omega, show ¬ 32 ≤ i by omega]
  · have : (255#32).getLsbD i = false := by
      rw [BitVec.getLsbD_ofNat]
      have h : Nat.testBit 255 i = false := Nat.testBit_lt_two_pow (Nat.lt_of_lt_of_le (show 255 < 2 ^ 8 by decide) (Nat.pow_le_pow_right (by decide) (by omega)))
      rw [h, Bool.and_false]
    rw [this, Bool.and_false, Bool.and_false]
theorem shr_eq (x : Int32) {s : Nat} (hs : s = 0 ∨ s = 8 ∨ s = 16 ∨ s = 24) : qshr x (nI s) &&& nI 255 = qushr x (nI s) &&& nI 255 := by
  apply Int32.toBitVec_inj.mp
  rcases hs with rfl | rfl | rfl | rfl
  · exact bv_shr x.toBitVec (s := 0) (by omega)
  · exact bv_shr x.toBitVec (s := 8) (by omega)
  · exact bv_shr x.toBitVec (s := 16) (by omega)
  · exact bv_shr x.toBitVec (s := 24) (by omega)
