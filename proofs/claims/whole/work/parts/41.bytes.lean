theorem bv_byte (x : BitVec 32) (n : Nat) (hn : n ≤ 24) : (x.sshiftRight n) &&& 255#32 = (x >>> n) &&& 255#32 := by
  apply BitVec.eq_of_getLsbD_eq
  intro i hi
  rw [BitVec.getLsbD_and, BitVec.getLsbD_and, BitVec.getLsbD_sshiftRight, BitVec.getLsbD_ushiftRight]
  by_cases h8 : i < 8
  · rw [if_pos (by omega)]
    rw [show decide (32 ≤ i) = false from decide_eq_false (by omega)]
    rfl
  · have : (255#32).getLsbD i = false := by
      have hk : ∀ j : Nat, j < 32 → 8 ≤ j → (255#32).getLsbD j = false := by decide +kernel
      exact hk i hi (by omega)
    rw [this, Bool.and_false, Bool.and_false]
theorem byte_same (w : Int32) (k : Nat) (hk : k < 4) : ((Int32.toUInt32 w >>> (Int32.toUInt32 (8 * Int32.ofNat k) &&& Int32.toUInt32 31)).toInt32) &&& 255 = (w >>> ((8 * Int32.ofNat k) &&& 31)) &&& 255 := by
  apply Int32.toBitVec_inj.mp
  have h : ∀ n : Nat, n ≤ 24 → (w.toBitVec >>> n) &&& 255#32 = (w.toBitVec.sshiftRight n) &&& 255#32 := fun n hn => (bv_byte w.toBitVec n hn).symm
  rcases (show k = 0 ∨ k = 1 ∨ k = 2 ∨ k = 3 by omega) with rfl | rfl | rfl | rfl
  · exact h 0 (by decide)
  · exact h 8 (by decide)
  · exact h 16 (by decide)
  · exact h 24 (by decide)
