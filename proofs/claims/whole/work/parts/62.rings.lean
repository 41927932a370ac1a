/-! rings -/
theorem e_pigeon : ∀ (n : Nat) (f : Nat → Nat), (∀ i, i ≤ n → f i < n) → ∃ i j, i < j ∧ j ≤ n ∧ f i = f j := by
  intro n
  induction n with
  | zero => intro f h; exact absurd (h 0 (Nat.le_refl _)) (by omega)
  | succ n ih =>
    intro f h
    by_cases hx : ∃ i, i ≤ n ∧ f i = f (n + 1)
    · obtain ⟨i, h1, h2⟩ := hx
      exact ⟨i, n + 1, by omega, Nat.le_refl _, h2⟩
    · have hne : ∀ i, i ≤ n → f i ≠ f (n + 1) := fun i hi he => hx ⟨i, hi, he⟩
      obtain ⟨i, j, h1, h2, h3⟩ := ih (fun i => if f (n + 1) < f i then f i - 1 else f i) (fun i hi => by
        have a1 := h i (by omega); have a2 := h (n + 1) (Nat.le_refl _); have a3 := hne i hi
        split <;> omega)
      refine ⟨i, j, h1, by omega, ?_⟩
      have a3 := hne i (by omega); have a4 := hne j h2
      split at h3 <;> split at h3 <;> omega
def eIt (par : Nat → Int32) (b : Nat) : Nat → Int32
  | 0 => par b
  | i + 1 => par (nx (eIt par b i))
def eCl (par : Nat → Int32) (b : Nat) : Nat → Int32 → Bool
  | 0, _ => false
  | d + 1, cur => if cur = nI b then true else if cur < nI b then false else eCl par b d (par (nx cur))
def eRf (par : Nat → Int32) (b : Nat) : Nat → Int32 → Bool → Bool
  | 0, cur, l => decide (cur = nI b) && l
  | d + 1, cur, l => if cur = -1 then false else if cur = nI b then l else eRf par b d (par (nx cur)) (l && decide (nI b < cur))
theorem eRf_f (par : Nat → Int32) (b d : Nat) (cur : Int32) : eRf par b d cur false = false := by
  induction d generalizing cur with
  | zero => simp [eRf]
  | succ d ih => unfold eRf; split; rfl; split; rfl; exact ih _
def eVal (m : Nat) (x : Int32) : Prop := x = -1 ∨ ∃ a, a < m ∧ x = nI a
theorem eRC {par : Nat → Int32} {b m : Nat} (hm : m ≤ 10) (hb : b < m) (hp : ∀ a, a < m → eVal m (par a)) (d : Nat) : ∀ i, eVal m (eIt par b i) → (eRf par b d (eIt par b i) true = eCl par b d (eIt par b i)) ∨ (eIt par b (i + d) = nI b ∧ ∀ j, j < d → ∃ a, a < m ∧ b < a ∧ eIt par b (i + j) = nI a) := by
  induction d with
  | zero =>
    intro i hv
    by_cases h : eIt par b i = nI b
    · exact .inr ⟨h, fun j hj => absurd hj (by omega)⟩
    · left; simp [eRf, eCl, h]
  | succ d ih =>
    intro i hv
    rcases hv with h1 | ⟨a, ha, h1⟩
    · left
      unfold eRf eCl
      rw [h1]
      have e1 : ¬ ((-1 : Int32) = nI b) := fun h => by rw [eq_comm, nI_m1 (by omega)] at h; exact h
      have e2 : (-1 : Int32) < nI b := by
        rw [Int32.lt_iff_toInt_lt, nI_toInt (by omega), show (-1 : Int32).toInt = -1 from by decide]; omega
      simp [e1, e2]
    · have hnx : nx (eIt par b i) = a := by rw [h1, ex_nI (by omega)]
      have hv' : eVal m (eIt par b (i + 1)) := by unfold eIt; rw [hnx]; exact hp a ha
      unfold eRf eCl
      rw [show par (nx (eIt par b i)) = eIt par b (i + 1) from rfl]
      rw [h1]
      simp only [nI_m1 (show a < 2 ^ 31 by omega), if_false, eI_inj (show a < 2 ^ 31 by omega) (show b < 2 ^ 31 by omega), eI_lt (show a < 2 ^ 31 by omega) (show b < 2 ^ 31 by omega), eI_lt (show b < 2 ^ 31 by omega) (show a < 2 ^ 31 by omega), Bool.true_and]
      by_cases hab : a = b
      · left; simp [hab]
      · by_cases hlt : a < b
        · left
          simp only [hab, hlt, if_false, if_true, show decide (b < a) = false from decide_eq_false (by omega)]
          exact eRf_f _ _ _ _
        · simp only [hab, hlt, if_false, show decide (b < a) = true from decide_eq_true (by omega)]
          rcases ih (i + 1) hv' with h2 | ⟨h2, h3⟩
          · exact .inl h2
          · refine .inr ⟨by rw [← h2]; congr 1; omega, fun j hj => ?_⟩
            by_cases hj0 : j = 0
            · subst hj0; exact ⟨a, ha, by omega, h1⟩
            · obtain ⟨a', b1, b2, b3⟩ := h3 (j - 1) (by omega)
              exact ⟨a', b1, b2, by rw [← b3]; congr 1; omega⟩
theorem eRC10 {par : Nat → Int32} {b m : Nat} (hm : m ≤ 10) (hb : b < m) (hp : ∀ a, a < m → eVal m (par a)) : eRf par b 10 (par b) true = eCl par b 10 (par b) := by
  rcases eRC hm hb hp 10 0 (hp b hb) with h | ⟨h1, h2⟩
  · exact h
  · exfalso
    have h3 : ∀ j, j ≤ 9 → nx (eIt par b j) < m ∧ b < nx (eIt par b j) ∧ eIt par b j = nI (nx (eIt par b j)) := by
      intro j hj
      obtain ⟨a, a1, a2, a3⟩ := h2 j (by omega)
      rw [Nat.zero_add] at a3
      rw [a3, ex_nI (by omega)]; exact ⟨a1, a2, rfl⟩
    obtain ⟨i, j, c1, c2, c3⟩ := e_pigeon 9 (fun i => nx (eIt par b i) - 1) (fun i hi => by have := h3 i hi; omega)
    have c4 : eIt par b i = eIt par b j := by
      have d1 := h3 i (by omega); have d2 := h3 j c2
      rw [d1.2.2, d2.2.2]; congr 1; omega
    have c5 : ∀ k, eIt par b (i + k) = eIt par b (j + k) := by
      intro k
      induction k with
      | zero => exact c4
      | succ k ih => show par (nx (eIt par b (i + k))) = par (nx (eIt par b (j + k))); rw [ih]
    have c6 := c5 (10 - j)
    rw [show j + (10 - j) = 0 + 10 by omega, h1] at c6
    have c7 := h3 (i + (10 - j)) (by omega)
    rw [c6, ex_nI (by omega)] at c7
    omega
theorem ring_c {m t b : Nat} {MC : cM} {MR : rM} (hm : m ≤ 10) (g0 : eG0 m t MC MR) (g2 : eG2 m MC MR) (hb : b < m) : m3_isLeastOfRing (nI b) MC = some (if eCl (rg MR 1309 0) b 10 (rg MR 1309 0 b) then 1 else 0, MC) := by
  have hb10 : b < 10 := by omega
  unfold m3_isLeastOfRing
  simp only [of_y hb10, blt_t hb10, (g2.1 b hb).1, zbd_s, zbv_s, zgd_t, Bool.and_true, Bool.true_and, Bool.and_self, if_true, if_false, e_01, eq_self, Bool.false_eq_true]
  refine eloop (σ := Int32) (fun f k c => m3_isLeastOfRing_11 f (nI b) c (nI k) MC = some (if eCl (rg MR 1309 0) b (10 - k) c then 1 else 0, MC)) (fun k c => eVal m c) (m := 10) (k0 := 0) (by omega) ?_ ?_ (zfu_gt (by omega)) ?_
  · intro f c _
    simp only [m3_isLeastOfRing_11, show ((10 : Int32) ≤ nI 10) = True from eq_true (by decide), zbd_s, zbv_s, zgd_t, Bool.and_true, Bool.true_and, Bool.and_self, if_true, if_false, e_01, eq_self, Bool.false_eq_true]
    simp [eCl]
  · intro f k c _ hk hv ih
    rw [show 10 - k = (10 - (k + 1)) + 1 by omega]
    simp only [m3_isLeastOfRing_11, show ((10 : Int32) ≤ nI k) = False from eq_false (by rw [show (10 : Int32) = nI 10 from rfl, eI_le (by omega) (by omega)]; omega), ep1, eCl, zbd_s, zbv_s, zgd_t, Bool.and_true, Bool.true_and, Bool.and_self, if_true, if_false, e_01, eq_self, Bool.false_eq_true]
    by_cases h1 : c = nI b
    · simp [h1]
    · by_cases h2 : c < nI b
      · simp [h1, h2, Int32.not_le.mpr h2]
      · have h3 : nI b ≤ c := Int32.not_lt.mp h2
        rcases hv with h4 | ⟨a, ha, rfl⟩
        · exfalso
          rw [h4] at h2; apply h2
          rw [Int32.lt_iff_toInt_lt, nI_toInt (by omega), show (-1 : Int32).toInt = -1 from by decide]; omega
        · simp only [h1, h2, h3, if_false, if_true, of_y (show a < 10 by omega), blt_t (show a < 10 by omega), (g2.1 a ha).1, ex_nI (show a < 2 ^ 31 by omega), zbd_s, zbv_s, zgd_t, Bool.and_true, Bool.true_and, Bool.and_self, if_true, if_false, e_01, eq_self, Bool.false_eq_true]
          refine ih _ ?_
          rcases (g2.1 a ha).2.2 with h5 | ⟨_, _, _, p, p1, p2, p3⟩
          · exact .inl h5.1
          · exact .inr ⟨p, p1, p3⟩
  · rcases (g2.1 b hb).2.2 with h5 | ⟨_, _, _, p, p1, p2, p3⟩
    · exact .inl h5.1
    · exact .inr ⟨p, p1, p3⟩
theorem ring_e {m b : Nat} {MR : rM} (hm : m ≤ 10) (hb : b < m) (hv : ∀ a, a < m → eVal m (rg MR 1309 0 a)) (k4 : Int32 → Int32 → rM → Option (Int32 × rM)) (x1 : Int32) : m12_rings_25 k4 zfu x1 (nI b) (rg MR 1309 0 b) 1 1 MR = k4 (x1 + if eRf (rg MR 1309 0) b 10 (rg MR 1309 0 b) true then 1 else 0) (nI (b + 1)) MR := by
  refine eloop (σ := Int32 × Bool) (fun f k c => m12_rings_25 k4 f x1 (nI b) c.1 (nI k) (if c.2 then 1 else 0) MR = k4 (x1 + if eRf (rg MR 1309 0) b (11 - k) c.1 c.2 then 1 else 0) (nI (b + 1)) MR) (fun k c => eVal m c.1) (m := 11) (k0 := 1) (s := (rg MR 1309 0 b, true)) (by omega) ?_ ?_ (zfu_gt (by omega)) (hv b hb)
  · rintro f ⟨c, l⟩ hc
    simp only [m12_rings_25, m12_rings_72, m12_rings_88, show ((11 : Int32) ≤ nI 11) = True from eq_true (by decide), ep1, ei_1, eRf, zbd_s, zbv_s, zgd_t, Bool.and_true, Bool.true_and, Bool.and_self, if_true, if_false, e_01, eq_self, Bool.false_eq_true]
    by_cases h1 : c = -1
    · have : ¬ ((-1 : Int32) = nI b) := fun h => by rw [eq_comm, nI_m1 (by omega)] at h; exact h
      simp [h1, this, eRf]
    · by_cases h2 : c = nI b
      · cases l <;> simp [h1, h2, eRf, nI_m1 (show b < 2 ^ 31 by omega)]
      · simp [h1, h2, eRf]
  · rintro f k ⟨c, l⟩ _ hk hc ih
    rw [show 11 - k = (11 - (k + 1)) + 1 by omega]
    simp only [m12_rings_25, m12_rings_72, m12_rings_57, m12_rings_88, show ((11 : Int32) ≤ nI k) = False from eq_false (by rw [show (11 : Int32) = nI 11 from rfl, eI_le (by omega) (by omega)]; omega), ep1, ei_1, eRf, zbd_s, zbv_s, zgd_t, Bool.and_true, Bool.true_and, Bool.and_self, if_true, if_false, e_01, eq_self, Bool.false_eq_true]
    rcases hc with h1 | ⟨a, ha, rfl⟩
    · have : ¬ ((-1 : Int32) = nI b) := fun h => by rw [eq_comm, nI_m1 (by omega)] at h; exact h
      dsimp only at h1
      simp [h1, this]
    · simp only [nI_m1 (show a < 2 ^ 31 by omega), if_false, eI_inj (show a < 2 ^ 31 by omega) (show b < 2 ^ 31 by omega), eI_le (show a < 2 ^ 31 by omega) (show b < 2 ^ 31 by omega), eI_lt (show b < 2 ^ 31 by omega) (show a < 2 ^ 31 by omega), ezin_nI (show a < 10 by omega) (show 10 < 2 ^ 31 by decide), ex_nI (show a < 2 ^ 31 by omega), zbd_s, zbv_s, zgd_t, Bool.and_true, Bool.true_and, Bool.and_self, if_true, if_false, e_01, eq_self, Bool.false_eq_true]
      by_cases hab : a = b
      · cases l <;> simp [hab]
      · simp only [hab, if_false]
        have := ih (rg MR 1309 0 a, l && decide (b < a)) (hv a ha)
        dsimp only at this
        rw [← this]
        cases l with
        | false => simp
        | true => by_cases hl : a ≤ b <;> simp [hl] <;> simp [show ¬ (b < a) ↔ a ≤ b by omega, show (b < a) ↔ ¬ a ≤ b by omega, hl]
theorem o_rings {n : Nat} {MC : cM} {MR : rM} (h : eRel n MC MR) : eO n (m11_rings MC) (m12_rings MR) := by
  have h' := h
  obtain ⟨m, t, hm, ht, g0, g1, g2, g3, g4, g5, g6, g7, g8, g9⟩ := h
  have hv : ∀ a, a < m → eVal m (rg MR 1309 0 a) := by
    intro a ha
    rcases (g2.1 a ha).2.2 with h5 | ⟨_, _, _, p, p1, p2, p3⟩
    · exact .inl h5.1
    · exact .inr ⟨p, p1, p3⟩
  have hc : ∃ r, m3_countRings MC = some (r, MC) ∧ m12_rings MR = some (r, MR) := by
    unfold m3_countRings m12_rings
    refine eloop (σ := Int32) (fun f k c => ∃ r, m3_countRings_4 f c (nI k) MC = some (r, MC) ∧ m12_rings_4 f c (nI k) MR = some (r, MR)) (fun _ _ => True) (m := m) (k0 := 0) (by omega) ?_ ?_ (zfu_gt (by omega)) trivial
    · intro f c _
      simp only [m3_countRings_4, m12_rings_4, g0.1, g0.2.1, eI_le (show m < 2 ^ 31 by omega) (show m < 2 ^ 31 by omega), Nat.le_refl, zbd_s, zbv_s, zgd_t, Bool.and_true, Bool.true_and, Bool.and_self, if_true, if_false, e_01, eq_self, Bool.false_eq_true]
      exact ⟨c, rfl, rfl⟩
    · intro f k c _ hk _ ih
      simp only [m3_countRings_4, m3_countRings_23, m12_rings_4, g0.1, g0.2.1, eI_le (show m < 2 ^ 31 by omega) (show k < 2 ^ 31 by omega), show (m ≤ k) = False from eq_false (by omega), ring_c hm g0 g2 hk, ezin_nI (show k < 10 by omega) (show 10 < 2 ^ 31 by decide), ex_nI (show k < 2 ^ 31 by omega), ring_e hm hk hv, eRC10 hm hk hv, ep1, ei_1, zbd_s, zbv_s, zgd_t, Bool.and_true, Bool.true_and, Bool.and_self, if_true, if_false, e_01, eq_self, Bool.false_eq_true]
      cases eCl (rg MR 1309 0) k 10 (rg MR 1309 0 k)
      · simpa using ih c trivial
      · simpa using ih (c + 1) trivial
  obtain ⟨r, e1, e2⟩ := hc
  unfold m11_rings
  rw [e1, e2, zbd_s]
  exact eO_same h'
