/-! shortest ways between clocks, as numbers alone -/
def eHi : Nat → Int32 := fun j => if j / 10 = j % 10 then 0 else 9999
def eLw (D : Nat → Int32) (p : Nat) (v : Int32) : Nat → Int32 := fun j => if j = p then (if D p ≤ v then D p else v) else D j
/-- what is known by f facts, those by s left out -/
def eHf (N : rM) (s : Nat → Bool) : Nat → Nat → Int32
  | 0 => eHi
  | f + 1 => if s (nx (rg N 1352 0 f)) then eHf N s f else eLw (eLw (eHf N s f) (10 * nx (rg N 1353 0 f) + nx (rg N 1354 0 f)) (rg N 1356 0 f)) (10 * nx (rg N 1354 0 f) + nx (rg N 1353 0 f)) (-(rg N 1355 0 f))
/-- all ways over o too -/
def eHp (D : Nat → Int32) (o : Nat) : Nat → Int32 := fun j => if D (10 * (j / 10) + o) < 9999 ∧ D (10 * o + j % 10) < 9999 then (if D j ≤ D (10 * (j / 10) + o) + D (10 * o + j % 10) then D j else D (10 * (j / 10) + o) + D (10 * o + j % 10)) else D j
def eHd (N : rM) (s : Nat → Bool) (F : Nat) : Nat → Nat → Int32
  | 0 => eHf N s F
  | o + 1 => eHp (eHd N s F o) o
theorem eHf_s (N : rM) (s : Nat → Bool) (f : Nat) : eHf N s (f + 1) = if s (nx (rg N 1352 0 f)) then eHf N s f else eLw (eLw (eHf N s f) (10 * nx (rg N 1353 0 f) + nx (rg N 1354 0 f)) (rg N 1356 0 f)) (10 * nx (rg N 1354 0 f) + nx (rg N 1353 0 f)) (-(rg N 1355 0 f)) := rfl
theorem eHd_s (N : rM) (s : Nat → Bool) (F o : Nat) : eHd N s F (o + 1) = eHp (eHd N s F o) o := rfl
theorem eHp_at (D : Nat → Int32) (o : Nat) {a b : Nat} (hb : b < 10) : eHp D o (10 * a + b) = if D (10 * a + o) < 9999 ∧ D (10 * o + b) < 9999 then (if D (10 * a + b) ≤ D (10 * a + o) + D (10 * o + b) then D (10 * a + b) else D (10 * a + o) + D (10 * o + b)) else D (10 * a + b) := by
  unfold eHp
  rw [show (10 * a + b) / 10 = a by omega, show (10 * a + b) % 10 = b by omega]
/-- the facts are what they may be -/
def eFk (m F : Nat) (N : rM) : Prop := ∀ i : Nat, i < F → (∃ p a b : Nat, p < m ∧ a < m ∧ b < m ∧ a ≠ b ∧ rg N 1352 0 i = nI p ∧ rg N 1353 0 i = nI a ∧ rg N 1354 0 i = nI b) ∧ -999 ≤ rg N 1355 0 i ∧ rg N 1355 0 i ≤ rg N 1356 0 i ∧ rg N 1356 0 i ≤ 999
theorem eHf_cg {N : rM} {s s' : Nat → Bool} {F : Nat} (h : ∀ i, i < F → s (nx (rg N 1352 0 i)) = s' (nx (rg N 1352 0 i))) : eHf N s F = eHf N s' F := by
  induction F with
  | zero => rfl
  | succ F ih => rw [eHf_s, eHf_s, ih (fun i hi => h i (by omega)), h F (by omega)]
theorem eHd_cg {N : rM} {s s' : Nat → Bool} {F : Nat} (h : ∀ i, i < F → s (nx (rg N 1352 0 i)) = s' (nx (rg N 1352 0 i))) (o : Nat) : eHd N s F o = eHd N s' F o := by
  induction o with
  | zero => exact eHf_cg h
  | succ o ih => rw [eHd_s, eHd_s, ih]
theorem eTle (x y : Int32) : x ≤ y ↔ x.toInt ≤ y.toInt := Int32.le_iff_toInt_le
theorem eTlt (x y : Int32) : x < y ↔ x.toInt < y.toInt := Int32.lt_iff_toInt_lt
theorem eLw_ge {D : Nat → Int32} {p : Nat} {v : Int32} {B : Int} (h : ∀ j, B ≤ (D j).toInt ∧ (D j).toInt ≤ 9999) (hv : B ≤ v.toInt) (j : Nat) : B ≤ (eLw D p v j).toInt ∧ (eLw D p v j).toInt ≤ 9999 := by
  unfold eLw
  have := h p
  by_cases hj : j = p
  · rw [if_pos hj]
    by_cases hd : D p ≤ v
    · rw [if_pos hd]; exact this
    · rw [if_neg hd]
      rw [eTle] at hd
      omega
  · rw [if_neg hj]; exact h j
theorem eHf_ge {m F : Nat} {N : rM} (s : Nat → Bool) (h : eFk m F N) (j : Nat) : -999 ≤ (eHf N s F j).toInt ∧ (eHf N s F j).toInt ≤ 9999 := by
  have key : ∀ f, f ≤ F → ∀ j, -999 ≤ (eHf N s f j).toInt ∧ (eHf N s f j).toInt ≤ 9999 := by
    intro f
    induction f with
    | zero =>
      intro _ j
      show -999 ≤ (eHi j).toInt ∧ (eHi j).toInt ≤ 9999
      unfold eHi
      split
      · rw [show (0 : Int32).toInt = 0 from rfl]; omega
      · rw [show (9999 : Int32).toInt = 9999 from rfl]; omega
    | succ f ih =>
      intro hf j
      rw [eHf_s]
      split
      · exact ih (by omega) j
      · obtain ⟨-, h1, h2, h3⟩ := h f (by omega)
        rw [eTle] at h1 h2 h3
        rw [show (-999 : Int32).toInt = -999 from rfl] at h1
        rw [show (999 : Int32).toInt = 999 from rfl] at h3
        refine eLw_ge (eLw_ge (ih (by omega)) (by omega)) ?_ j
        rw [Int32.toInt_neg, en_bmod (by omega) (by omega)]; omega
  exact key F (Nat.le_refl F) j
theorem eHd_ge {m F : Nat} {N : rM} (s : Nat → Bool) (h : eFk m F N) (o : Nat) (ho : o ≤ 10) (j : Nat) : -(999 * 2 ^ o) ≤ (eHd N s F o j).toInt ∧ (eHd N s F o j).toInt ≤ 9999 := by
  induction o generalizing j with
  | zero =>
    have := eHf_ge s h j
    rw [show (eHd N s F 0 j) = eHf N s F j from rfl]
    simpa using this
  | succ o ih =>
    have ih := ih (by omega)
    rw [eHd_s]
    have hpow : (2 : Int) ^ (o + 1) = 2 * 2 ^ o := by rw [Int.pow_succ]; omega
    have hle : (2 : Int) ^ o ≤ 512 := by
      have : ∀ o : Nat, o < 10 → (2 : Int) ^ o ≤ 512 := by decide
      exact this o (by omega)
    have h0 : (0 : Int) < 2 ^ o := by
      have : ∀ o : Nat, o < 10 → (0 : Int) < 2 ^ o := by decide
      exact this o (by omega)
    unfold eHp
    have hj := ih j
    have h1 := ih (10 * (j / 10) + o)
    have h2 := ih (10 * o + j % 10)
    split
    · rename_i hc
      rw [eTlt, eTlt, show (9999 : Int32).toInt = 9999 from rfl] at hc
      split
      · omega
      · rename_i hd
        rw [eTle, Int32.toInt_add, en_bmod (by omega) (by omega)] at hd
        rw [Int32.toInt_add, en_bmod (by omega) (by omega)]
        omega
    · omega
theorem eHd_9 {m F : Nat} {N : rM} (s : Nat → Bool) (h : eFk m F N) (o : Nat) (ho : o ≤ 10) (j : Nat) : eHd N s F o j ≤ 9999 := by
  rw [eTle]; exact (eHd_ge s h o ho j).2
/-- ways over o leave o's row and column, if o's own is 0 -/
theorem eHp_row {D : Nat → Int32} {o b : Nat} (hb : b < 10) (h0 : D (10 * o + o) = 0) : eHp D o (10 * o + b) = D (10 * o + b) := by
  rw [eHp_at D o hb, h0, Int32.zero_add]
  split
  · split <;> rfl
  · rfl
theorem eHp_col {D : Nat → Int32} {o a : Nat} (ho : o < 10) (h0 : D (10 * o + o) = 0) : eHp D o (10 * a + o) = D (10 * a + o) := by
  rw [eHp_at D o ho, h0, Int32.add_zero]
  split
  · split <;> rfl
  · rfl
theorem eHp_le (D : Nat → Int32) (o j : Nat) : eHp D o j ≤ D j := by
  unfold eHp
  split
  · split
    · exact Int32.le_refl _
    · rename_i h
      exact Int32.le_of_lt (Int32.not_le.mp h)
  · exact Int32.le_refl _
/-- no loop below 0 as far as o -/
def eFs (N : rM) (s : Nat → Bool) (F m o : Nat) : Prop := ∀ o', o' ≤ o → ∀ i, i < m → 0 ≤ eHd N s F o' (10 * i + i)
theorem eHf_dg {m F : Nat} {N : rM} (s : Nat → Bool) (hm : m ≤ 10) (h : eFk m F N) {i : Nat} (hi : i < 10) : eHf N s F (10 * i + i) = 0 := by
  have key : ∀ f, f ≤ F → eHf N s f (10 * i + i) = 0 := by
    intro f
    induction f with
    | zero =>
      intro _
      show eHi _ = 0
      unfold eHi
      rw [if_pos (by omega)]
    | succ f ih =>
      intro hf
      rw [eHf_s]
      split
      · exact ih (by omega)
      · obtain ⟨⟨p, a, b, h1, h2, h3, h4, h5, h6, h7⟩, -⟩ := h f (by omega)
        rw [h6, h7, ex_nI (by omega), ex_nI (by omega)]
        unfold eLw
        rw [if_neg (by omega), if_neg (by omega)]
        exact ih (by omega)
  exact key F (Nat.le_refl F)
/-- while there is none, all own ones are 0 -/
theorem eFs_0 {m F o : Nat} {N : rM} {s : Nat → Bool} (hm : m ≤ 10) (h : eFk m F N) (hs : eFs N s F m o) {i : Nat} (hi : i < m) : eHd N s F o (10 * i + i) = 0 := by
  have key : ∀ o', o' ≤ o → eHd N s F o' (10 * i + i) = 0 := by
    intro o'
    induction o' with
    | zero => intro _; exact eHf_dg s hm h (by omega)
    | succ o' ih =>
      intro ho
      have h1 := hs (o' + 1) ho i hi
      have h2 := eHp_le (eHd N s F o') o' (10 * i + i)
      rw [ih (by omega)] at h2
      exact Int32.le_antisymm h2 h1
  exact key o (Nat.le_refl o)
/-- a memory's numbers are those of D -/
def eHm (m : Nat) (D g : Nat → Int32) : Prop := ∀ a b, a < m → b < m → g (10 * a + b) = D (10 * a + b)
def eHx (D D' : Nat → Int32) (p : Nat) : Nat → Int32 := fun j => if j < p then D' j else D j
theorem eHm_lw {m a b : Nat} {D g : Nat → Int32} {v : Int32} (h : eHm m D g) (hm : m ≤ 10) (ha : a < m) (hb : b < m) {g' : Nat → Int32} (h1 : g' (10 * a + b) = if g (10 * a + b) ≤ v then g (10 * a + b) else v) (h2 : ∀ j, j ≠ 10 * a + b → g' j = g j) : eHm m (eLw D (10 * a + b) v) g' := by
  intro a' b' ha' hb'
  unfold eLw
  by_cases hj : 10 * a' + b' = 10 * a + b
  · rw [if_pos hj, hj, h1, h a b ha hb]
  · rw [if_neg hj, h2 _ hj]; exact h a' b' ha' hb'
