/-! bits of any int -/
theorem b32_e (x : Int32) {t : Nat} (ht : t < 31) : (x >>> (nI t &&& 31)).toBitVec = x.toBitVec.sshiftRight t := by
  show x.toBitVec.sshiftRight ((nI t &&& 31).toBitVec.smod 32).toNat = _
  rw [sh_l t (by omega)]
theorem b32 (x : Int32) {t : Nat} (ht : t < 31) : ((x >>> (nI t &&& 31)) &&& 1 = 1) ↔ x.toBitVec.getLsbD t = true := by
  rw [← Int32.toBitVec_inj]
  show (x >>> (nI t &&& 31)).toBitVec &&& 1#32 = 1#32 ↔ _
  rw [b32_e x ht]
  constructor
  · intro h
    have h0 : (x.toBitVec.sshiftRight t &&& 1#32).getLsbD 0 = true := by rw [h]; decide
    rw [BitVec.getLsbD_and, BitVec.getLsbD_sshiftRight, Bool.and_eq_true, Bool.and_eq_true] at h0
    have h1 := h0.1.2
    rw [if_pos (by omega), Nat.add_zero] at h1
    exact h1
  · intro h
    apply BitVec.eq_of_getLsbD_eq
    intro i hi
    rw [BitVec.getLsbD_and, BitVec.getLsbD_sshiftRight]
    by_cases e : i = 0
    · subst e
      simp
      rw [if_pos (by omega)]
      exact h
    · have : (1#32).getLsbD i = false := by
        rw [BitVec.getLsbD_one]
        simp [e]
      rw [this, Bool.and_false]
theorem b32_0 {t : Nat} (ht : t < 31) : ¬ ((0 : Int32) >>> (nI t &&& 31)) &&& 1 = 1 := by
  rw [b32 _ ht]
  simp
theorem b32_or (x y : Int32) {t : Nat} (ht : t < 31) : ((x ||| y) >>> (nI t &&& 31) &&& 1 = 1) ↔ ((x >>> (nI t &&& 31)) &&& 1 = 1) ∨ ((y >>> (nI t &&& 31)) &&& 1 = 1) := by
  rw [b32 _ ht, b32 _ ht, b32 _ ht, show (x ||| y).toBitVec = x.toBitVec ||| y.toBitVec from rfl, BitVec.getLsbD_or, Bool.or_eq_true]
theorem b32_not (x : Int32) {t : Nat} (ht : t < 31) : ((x ^^^ (-1)) >>> (nI t &&& 31) &&& 1 = 1) ↔ ¬ ((x >>> (nI t &&& 31)) &&& 1 = 1) := by
  rw [b32 _ ht, b32 _ ht, show (x ^^^ (-1)).toBitVec = x.toBitVec ^^^ BitVec.allOnes 32 from rfl, BitVec.getLsbD_xor, BitVec.getLsbD_allOnes]
  simp [show t < 32 by omega]
theorem b32_z (x : Int32) {t : Nat} (ht : t < 31) : ((x >>> (nI t &&& 31)) &&& 1 = 0) ↔ ¬ ((x >>> (nI t &&& 31)) &&& 1 = 1) := by
  obtain ⟨j, hj, e⟩ := pk_andE (x >>> (nI t &&& 31)) (m := 1) 1 (by decide)
  rw [e]
  obtain rfl | rfl : j = 0 ∨ j = 1 := by omega
  · decide
  · decide
