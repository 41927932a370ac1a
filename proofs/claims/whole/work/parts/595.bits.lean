/-! bits of an Int32 -/
theorem eb_or (x y : Int32) (j : Nat) : eb (x ||| y) j = (eb x j || eb y j) := by
  unfold eb; rw [Int32.toBitVec_or, BitVec.getLsbD_or]
theorem eb_and (x y : Int32) (j : Nat) : eb (x &&& y) j = (eb x j && eb y j) := by
  unfold eb; rw [Int32.toBitVec_and, BitVec.getLsbD_and]
theorem eb_xor (x y : Int32) (j : Nat) : eb (x ^^^ y) j = (eb x j ^^ eb y j) := by
  unfold eb; rw [Int32.toBitVec_xor, BitVec.getLsbD_xor]
theorem eb_ge (x : Int32) {j : Nat} (h : 32 ≤ j) : eb x j = false := by
  unfold eb; exact BitVec.getLsbD_of_ge _ _ h
theorem eb_m1 {j : Nat} (h : j < 32) : eb (-1) j = true := by
  unfold eb
  have : ∀ j : Nat, j < 32 → (-1 : Int32).toBitVec.getLsbD j = true := by decide +kernel
  exact this j h
theorem eb_0 (j : Nat) : eb 0 j = false := by
  unfold eb
  rw [show (0 : Int32).toBitVec = 0#32 from rfl]; simp
theorem eb_ext {x y : Int32} (h : ∀ j : Nat, j < 32 → eb x j = eb y j) : x = y := by
  rw [← Int32.toBitVec_inj]
  exact BitVec.eq_of_getLsbD_eq (fun i hi => h i hi)
theorem zshl_pow {b : Nat} (h : b < 31) : zshl 1 (nI b) = nI (2 ^ b) := by
  have : ∀ b : Nat, b < 31 → zshl 1 (nI b) = nI (2 ^ b) := by decide +kernel
  exact this b h
theorem eb_shl {b : Nat} (h : b < 31) (j : Nat) : eb (zshl 1 (nI b)) j = decide (j = b) := by
  rcases Nat.lt_or_ge j 32 with hj | hj
  · have : ∀ b : Nat, b < 31 → ∀ j : Nat, j < 32 → eb (zshl 1 (nI b)) j = decide (j = b) := by decide +kernel
    exact this b h j hj
  · rw [eb_ge _ hj]; symm; rw [decide_eq_false_iff_not]; omega
theorem zshr_bit {b : Nat} (h : b < 32) (x : Int32) (j : Nat) (hj : j + b < 32) : eb (zshr x (nI b)) j = eb x (j + b) := by
  unfold eb zshr
  have e : ∀ b : Nat, b < 32 → (nI b &&& 31).toBitVec.smod 32 = BitVec.ofNat 32 b := by decide +kernel
  rw [Int32.toBitVec_shiftRight, e b h, BitVec.sshiftRight'_ofNat_eq_sshiftRight, BitVec.getLsbD_sshiftRight]
  rw [Nat.mod_eq_of_lt (by omega)]
  have : ¬ 32 ≤ j := by omega
  simp [this, show b + j < 32 by omega, Nat.add_comm]
theorem zshr1 {b : Nat} (h : b < 32) (x : Int32) : zshr x (nI b) &&& 1 = if eb x b then 1 else 0 := by
  refine eb_ext (fun j hj => ?_)
  rw [eb_and]
  have e1 : ∀ j : Nat, j < 32 → eb 1 j = decide (j = 0) := by decide +kernel
  rw [e1 j hj]
  by_cases h0 : j = 0
  · subst h0
    rw [zshr_bit h x 0 (by omega), Nat.zero_add]
    cases hb : eb x b
    · simp [eb_0]
    · simp; decide +kernel
  · rw [show decide (j = 0) = false from by simpa using h0, Bool.and_false]
    split
    · rw [e1 j hj]; simp [h0]
    · rw [eb_0]
theorem zshr1_1 {b : Nat} (h : b < 32) (x : Int32) : (zshr x (nI b) &&& 1 = 1) = (eb x b = true) := by
  rw [zshr1 h]; cases eb x b <;> simp <;> decide
theorem zshr1_0 {b : Nat} (h : b < 32) (x : Int32) : (zshr x (nI b) &&& 1 = 0) = (eb x b = false) := by
  rw [zshr1 h]; cases eb x b <;> simp <;> decide
/-- a number whose bits end at k is small -/
theorem eb_lt {x : Int32} {k : Nat} (hk : k < 31) (h : ∀ j : Nat, k ≤ j → eb x j = false) : ∃ a : Nat, a < 2 ^ k ∧ x = nI a := by
  have hx : x.toBitVec.toNat < 2 ^ k := by
    refine Nat.lt_pow_two_of_testBit _ (fun i hi => ?_)
    have := h i hi
    unfold eb at this
    rwa [BitVec.testBit_toNat]
  refine ⟨x.toBitVec.toNat, hx, ?_⟩
  rw [← Int32.toBitVec_inj]
  show _ = (Int32.ofNat _).toBitVec
  refine BitVec.eq_of_toNat_eq ?_
  rw [show (Int32.ofNat x.toBitVec.toNat).toBitVec = BitVec.ofNat 32 x.toBitVec.toNat from rfl, BitVec.toNat_ofNat]
  have : (2 : Nat) ^ k < 2 ^ 32 := Nat.pow_lt_pow_right (by decide) (by omega)
  rw [Nat.mod_eq_of_lt (by omega)]
theorem eb_nI (a j : Nat) (h : a < 2 ^ 32) : eb (nI a) j = a.testBit j := by
  unfold eb nI
  rw [show (Int32.ofNat a).toBitVec = BitVec.ofNat 32 a from rfl, BitVec.getLsbD_ofNat]
  by_cases hj : j < 32
  · simp [hj]
  · have : a < 2 ^ j := Nat.lt_of_lt_of_le h (Nat.pow_le_pow_right (by decide) (by omega))
    simp [hj, Nat.testBit_lt_two_pow this]
theorem isIn_y {b : Nat} (h : b < 32) (s : Int32) (M : rM) : m12_isIn s (nI b) M = some (if eb s b then 1 else 0, M) := by
  rw [isIn_e, zshr1 h]; cases eb s b <;> rfl
theorem ei_1 (p : Bool) : ((if p then (1 : Int32) else 0) = 0) = (p = false) := by cases p <;> simp <;> decide
