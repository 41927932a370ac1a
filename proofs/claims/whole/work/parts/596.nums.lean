/-! numbers -/
theorem en_neg {x : Int32} : (x < 0) = (eb x 31 = true) := by
  refine propext ?_
  rw [Int32.lt_iff_toInt_lt, Int32.toInt_zero]
  unfold eb
  rw [show x.toBitVec.getLsbD 31 = x.toBitVec.msb from (BitVec.msb_eq_getLsbD_last _).symm, BitVec.msb_eq_toInt, decide_eq_true_iff, Int32.toInt_toBitVec]
theorem en_xor {x p : Int32} (hp : 0 ≤ p) : (0 ≤ x ^^^ p) = (0 ≤ x) := by
  have h1 : eb p 31 = false := by
    cases h : eb p 31
    · rfl
    · rw [← en_neg] at h; exact absurd h (Int32.not_lt.mpr hp)
  refine propext ?_
  rw [← Int32.not_lt, ← Int32.not_lt, en_neg, en_neg, eb_xor, h1, Bool.xor_false]
theorem en_bmod {a : Int} (h1 : -2147483648 ≤ a) (h2 : a < 2147483648) : a.bmod (2 ^ 32) = a := by
  rw [Int.bmod_eq_of_le] <;> omega
theorem zrem_tmod {x y : Int32} (hy : 0 < y) : (zrem x y).toInt = x.toInt.tmod y.toInt := by
  have hy' : 0 < y.toInt := by rw [← Int32.toInt_zero, ← Int32.lt_iff_toInt_lt]; exact hy
  have hx1 := Int32.le_toInt x
  have hx2 := Int32.toInt_lt x
  have hd : (x / y).toInt = x.toInt.tdiv y.toInt := by
    refine Int32.toInt_div_of_ne_right _ _ ?_
    intro h
    rw [h] at hy
    exact absurd hy (by decide)
  have hm := Int.tmod_add_mul_tdiv x.toInt y.toInt
  have hb : -(2147483648) ≤ x.toInt.tdiv y.toInt * y.toInt ∧ x.toInt.tdiv y.toInt * y.toInt < 2147483648 := by
    rw [Int.mul_comm]
    rcases Int.lt_or_le x.toInt 0 with h0 | h0
    · have a1 := Int.lt_tmod_of_pos x.toInt hy'
      have a2 : x.toInt.tmod y.toInt ≤ 0 := by
        have := Int.tmod_nonneg y.toInt (show 0 ≤ -x.toInt by omega)
        rw [Int.neg_tmod] at this; omega
      have a3 : 0 ≤ y.toInt * (-x.toInt).tdiv y.toInt := Int.mul_nonneg (by omega) (Int.tdiv_nonneg (by omega) (by omega))
      rw [Int.neg_tdiv, Int.mul_neg] at a3
      omega
    · have a1 := Int.tmod_lt_of_pos x.toInt hy'
      have a2 := Int.tmod_nonneg y.toInt h0
      have a3 : 0 ≤ y.toInt * x.toInt.tdiv y.toInt := Int.mul_nonneg (by omega) (Int.tdiv_nonneg h0 (by omega))
      omega
  unfold zrem
  rw [Int32.toInt_sub, Int32.toInt_mul, hd, en_bmod hb.1 hb.2, Int.mul_comm, show x.toInt - y.toInt * x.toInt.tdiv y.toInt = x.toInt.tmod y.toInt by omega]
  rcases Int.lt_or_le x.toInt 0 with h0 | h0
  · have a1 := Int.lt_tmod_of_pos x.toInt hy'
    have a2 : x.toInt.tmod y.toInt ≤ 0 := by
      have := Int.tmod_nonneg y.toInt (show 0 ≤ -x.toInt by omega)
      rw [Int.neg_tmod] at this; omega
    have := Int32.toInt_lt y
    refine en_bmod ?_ ?_ <;> omega
  · have a1 := Int.tmod_lt_of_pos x.toInt hy'
    have a2 := Int.tmod_nonneg y.toInt h0
    have := Int32.toInt_lt y
    refine en_bmod ?_ ?_ <;> omega
theorem en_ti {x y : Int32} (h : x ≤ y) : x.toInt ≤ y.toInt := Int32.le_iff_toInt_le.mp h
theorem en_tl {x y : Int32} (h : x < y) : x.toInt < y.toInt := Int32.lt_iff_toInt_lt.mp h
theorem zrem_nn {x y : Int32} (hy : 0 < y) (hx : 0 ≤ x) : 0 ≤ zrem x y ∧ zrem x y < y := by
  have hy' := en_tl hy; have hx' := en_ti hx
  rw [Int32.toInt_zero] at hy' hx'
  refine ⟨Int32.le_iff_toInt_le.mpr ?_, Int32.lt_iff_toInt_lt.mpr ?_⟩
  · rw [zrem_tmod hy, Int32.toInt_zero]; exact Int.tmod_nonneg _ hx'
  · rw [zrem_tmod hy]; exact Int.tmod_lt_of_pos _ hy'
theorem zrem_neg {x y : Int32} (hy : 0 < y) (hx : x < 0) : zrem x y ≤ 0 ∧ -y < zrem x y := by
  have hy' := en_tl hy; have hx' := en_tl hx
  rw [Int32.toInt_zero] at hy' hx'
  have h2 := Int32.toInt_lt y
  have a1 := Int.lt_tmod_of_pos x.toInt hy'
  have a2 : x.toInt.tmod y.toInt ≤ 0 := by
    have := Int.tmod_nonneg y.toInt (show 0 ≤ -x.toInt by omega)
    rw [Int.neg_tmod] at this; omega
  refine ⟨Int32.le_iff_toInt_le.mpr ?_, Int32.lt_iff_toInt_lt.mpr ?_⟩
  · rw [zrem_tmod hy, Int32.toInt_zero]; exact a2
  · rw [zrem_tmod hy, Int32.toInt_neg, en_bmod (by omega) (by omega)]; exact a1
theorem zrem_nI {a b : Nat} (ha : a < 2 ^ 31) (hb : b < 2 ^ 31) (h0 : 0 < b) : zrem (nI a) (nI b) = nI (a % b) := by
  rw [← Int32.toInt_inj, zrem_tmod, nI_toInt ha, nI_toInt hb, nI_toInt (Nat.lt_of_le_of_lt (Nat.mod_le _ _) ha)]
  · exact (Int.ofNat_tmod a b).symm
  · rw [show (0 : Int32) = nI 0 from rfl, eI_lt (by omega) hb]; exact h0
theorem eI_div {a b : Nat} (ha : a < 2 ^ 31) (hb : b < 2 ^ 31) : nI a / nI b = nI (a / b) := by
  rw [← Int32.toInt_inj, Int32.toInt_div_of_ne_right, nI_toInt ha, nI_toInt hb, nI_toInt (Nat.lt_of_le_of_lt (Nat.div_le_self _ _) ha)]
  · exact (Int.ofNat_tdiv a b).symm
  · intro h
    have := congrArg Int32.toInt h
    rw [nI_toInt hb] at this
    rw [show (-1 : Int32).toInt = -1 from by decide] at this
    omega
theorem fmod_e {x p : Int32} (hp : 0 < p) (M : cM) : mJ9_floorMod x p M = some (if 0 ≤ zrem x p then zrem x p else zrem x p + p, M) := by
  unfold mJ9_floorMod
  have hz : znz p = true := by
    unfold znz
    rw [show decide (p = 0) = false from ?_]; rfl
    rw [decide_eq_false_iff_not]; intro h; rw [h] at hp; exact absurd hp (by decide)
  simp only [hz, en_xor (Int32.le_of_lt hp), Bool.and_self, zgd_t]
  by_cases hx : 0 ≤ x
  · rw [if_pos hx, if_pos (zrem_nn hp hx).1]
  · rw [if_neg hx]
    have h2 := (zrem_neg hp (Int32.not_le.mp hx)).1
    by_cases h3 : zrem x p = 0
    · rw [if_pos h3, if_pos (by rw [h3]; decide)]
    · rw [if_neg h3, if_neg ?_]
      intro h4; exact h3 (Int32.le_antisymm h2 h4)
theorem znz_pos {p : Int32} (hp : 0 < p) : znz p = true := by
  unfold znz
  rw [show decide (p = 0) = false from ?_]; rfl
  rw [decide_eq_false_iff_not]; intro h; rw [h] at hp; exact absurd hp (by decide)
