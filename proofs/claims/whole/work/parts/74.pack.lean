/-! numbers packed into numbers -/
theorem nI_bv (a : Nat) : (nI a).toBitVec = BitVec.ofNat 32 a := rfl
theorem eI_or (x y : Nat) : nI x ||| nI y = nI (x ||| y) := by
  rw [← Int32.toBitVec_inj, Int32.toBitVec_or, nI_bv, nI_bv, nI_bv]
  exact BitVec.ofNat_or.symm
theorem eI_and (x y : Nat) : nI x &&& nI y = nI (x &&& y) := by
  rw [← Int32.toBitVec_inj, Int32.toBitVec_and, nI_bv, nI_bv, nI_bv]
  exact BitVec.ofNat_and.symm
theorem sh31 : ∀ b : Nat, b < 32 → (nI b &&& 31).toBitVec.smod 32 = BitVec.ofNat 32 b := by decide +kernel
theorem eI_shl (a : Nat) {b : Nat} (hb : b < 32) : zshl (nI a) (nI b) = nI (a * 2 ^ b) := by
  unfold zshl
  rw [← Int32.toBitVec_inj, Int32.toBitVec_shiftLeft, sh31 b hb, nI_bv, nI_bv]
  refine BitVec.eq_of_toNat_eq ?_
  rw [BitVec.shiftLeft_eq', BitVec.toNat_shiftLeft, BitVec.toNat_ofNat, BitVec.toNat_ofNat, BitVec.toNat_ofNat, Nat.mod_eq_of_lt (show b < 2 ^ 32 by omega), Nat.shiftLeft_eq, Nat.mod_mul_mod]
theorem eI_shr {a b : Nat} (ha : a < 2 ^ 31) (hb : b < 32) : zshr (nI a) (nI b) = nI (a / 2 ^ b) := by
  unfold zshr
  have hm : (BitVec.ofNat 32 a).msb = false := by
    rw [BitVec.msb_eq_false_iff_two_mul_lt, BitVec.toNat_ofNat, Nat.mod_eq_of_lt (by omega)]; omega
  rw [← Int32.toBitVec_inj, Int32.toBitVec_shiftRight, sh31 b hb, nI_bv, nI_bv, BitVec.sshiftRight'_ofNat_eq_sshiftRight, Nat.mod_eq_of_lt (show b < 2 ^ 32 by omega), BitVec.sshiftRight_eq_of_msb_false hm]
  refine BitVec.eq_of_toNat_eq ?_
  rw [BitVec.toNat_ushiftRight, BitVec.toNat_ofNat, BitVec.toNat_ofNat, Nat.shiftRight_eq_div_pow, Nat.mod_eq_of_lt (show a < 2 ^ 32 by omega), Nat.mod_eq_of_lt]
  exact Nat.lt_of_le_of_lt (Nat.div_le_self _ _) (by omega)
theorem pack4 {a b : Nat} (hb : b < 4) : zshl (nI a) 2 ||| nI b = nI (4 * a + b) := by
  rw [show (2 : Int32) = nI 2 from rfl, eI_shl a (by decide), eI_or, show a * 2 ^ 2 = 2 ^ 2 * a by omega, ← Nat.two_pow_add_eq_or_of_lt (show b < 2 ^ 2 from hb) a]
theorem hi4 {a b : Nat} (hb : b < 4) (h : 4 * a + b < 2 ^ 31) : zshr (nI (4 * a + b)) 2 = nI a := by
  rw [show (2 : Int32) = nI 2 from rfl, eI_shr h (by decide)]
  congr 1; omega
theorem lo4 {a b : Nat} (hb : b < 4) : nI (4 * a + b) &&& 3 = nI b := by
  rw [show (3 : Int32) = nI 3 from rfl, eI_and, show (3 : Nat) = 2 ^ 2 - 1 from rfl, Nat.and_two_pow_sub_one_eq_mod]
  congr 1; omega
theorem pack2 {a b : Nat} (hb : b < 2) : zshl (nI a) 1 ||| nI b = nI (2 * a + b) := by
  rw [show (1 : Int32) = nI 1 from rfl, eI_shl a (by decide), eI_or, show a * 2 ^ 1 = 2 ^ 1 * a by omega, ← Nat.two_pow_add_eq_or_of_lt (show b < 2 ^ 1 from hb) a]
theorem hi2 {a b : Nat} (hb : b < 2) (h : 2 * a + b < 2 ^ 31) : zshr (nI (2 * a + b)) 1 = nI a := by
  rw [show (1 : Int32) = nI 1 from rfl, eI_shr h (by decide)]
  congr 1; omega
theorem lo2 {a b : Nat} (hb : b < 2) : nI (2 * a + b) &&& 1 = nI b := by
  rw [show (1 : Int32) = nI 1 from rfl, eI_and, show (1 : Nat) = 2 ^ 1 - 1 from rfl, Nat.and_two_pow_sub_one_eq_mod]
  congr 1; omega
/-- a row's beginning holds a list -/
def eArC (M : cM) (k : Nat) (l : List Nat) (v : Nat → Nat) : Prop := ∀ i x, l[i]? = some x → cg M k 0 i = nI (v x)
theorem eArC_app {M : cM} {k : Nat} {l : List Nat} {v : Nat → Nat} {x : Nat} (h : eArC M k l v) : eArC (cs M k 0 l.length (nI (v x))) k (l ++ [x]) v := by
  intro i y hy
  rw [List.getElem?_append] at hy
  split at hy
  · rw [cg_cs, if_neg (by omega)]; exact h i y hy
  · rename_i hl
    have : i - l.length = 0 := by
      cases hh : i - l.length with
      | zero => rfl
      | succ j => rw [hh] at hy; simp at hy
    rw [this] at hy
    simp at hy
    subst hy
    have : i = l.length := by omega
    subst this
    simp [cg_cs]
/-- the six that grow out of c -/
def eG6f (q : Nat → Bool) (c s : Nat) : List Nat := ((List.range s).filter (fun s => q (6 * c + s))).map (fun s => 6 * c + s)
theorem eG6f_s (q : Nat → Bool) (c s : Nat) : eG6f q c (s + 1) = eG6f q c s ++ if q (6 * c + s) then [6 * c + s] else [] := by
  unfold eG6f
  rw [List.range_succ, List.filter_append, List.map_append]
  congr 1
  cases h : q (6 * c + s) <;> simp [h]
theorem eG6f_len (q : Nat → Bool) (c s : Nat) : (eG6f q c s).length ≤ s := by
  unfold eG6f
  rw [List.length_map]
  have := List.length_filter_le (fun s => q (6 * c + s)) (List.range s)
  rw [List.length_range] at this; exact this
theorem eLs_6 (q : Nat → Bool) (c s : Nat) : eLs q (6 * c + s) = eLs q (6 * c) ++ eG6f q c s := by
  induction s with
  | zero => simp [eG6f]
  | succ s ih => rw [← Nat.add_assoc, eLs_s, ih, eG6f_s, List.append_assoc]
theorem eLs_grow {p q : Nat → Bool} (h : ∀ c s, s < 6 → q (6 * c + s) = true → p c = true) (n : Nat) : eLs q (6 * n) = (eLs p n).flatMap (fun c => eG6f q c 6) := by
  induction n with
  | zero => rfl
  | succ n ih =>
    rw [show 6 * (n + 1) = 6 * n + 6 by omega, eLs_6, ih, eLs_s, List.flatMap_append]
    congr 1
    cases hp : p n with
    | true => simp
    | false =>
      have : eG6f q n 6 = [] := by
        unfold eG6f
        rw [List.map_eq_nil_iff, List.filter_eq_nil_iff]
        intro s hs hq
        have := h n s (by simpa using hs) hq
        rw [hp] at this; cases this
      simp [this]
