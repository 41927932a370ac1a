/-! trees home: who may lead whom -/
def qMl (m : Nat) (N : rM) (b a : Nat) : Bool := decide (2 ≤ qHo m N m b) && (eLiv N a && (decide (qHo m N m a + 1 = qHo m N m b) && eMate N b a))
theorem eFd_mk {p : Nat → Bool} {d k a : Nat} (h1 : k ≤ a) (h2 : a < k + d) (h3 : p a = true) (h4 : ∀ j, k ≤ j → j < a → p j = false) : eFd p d k = some a := by
  induction d generalizing k with
  | zero => omega
  | succ d ih =>
    unfold eFd
    by_cases hk : k = a
    · rw [hk, if_pos h3]
    · rw [if_neg (by rw [h4 k (Nat.le_refl k) (by omega)]; decide)]
      exact ih (by omega) (by omega) (fun j hj1 hj2 => h4 j (by omega) hj2)
theorem eFd_min {p : Nat → Bool} {d k a : Nat} (h : eFd p d k = some a) : ∀ j, k ≤ j → j < a → p j = false := by
  induction d generalizing k with
  | zero => cases h
  | succ d ih =>
    unfold eFd at h
    intro j hj1 hj2
    split at h
    · cases h; omega
    · rename_i hp
      by_cases hjk : j = k
      · rw [hjk]; simpa using hp
      · exact ih h j (by omega) hj2
theorem eFd_nn {p : Nat → Bool} {d k : Nat} (h : eFd p d k = none) : ∀ j, k ≤ j → j < k + d → p j = false := by
  induction d generalizing k with
  | zero => intro j h1 h2; omega
  | succ d ih =>
    unfold eFd at h
    intro j hj1 hj2
    split at h
    · cases h
    · rename_i hp
      by_cases hjk : j = k
      · rw [hjk]; simpa using hp
      · exact ih h j (by omega) (by omega)
theorem eFd_no {p : Nat → Bool} {d k : Nat} (h : ∀ j, k ≤ j → j < k + d → p j = false) : eFd p d k = none := by
  cases h1 : eFd p d k with
  | none => rfl
  | some a =>
    obtain ⟨a1, a2, a3⟩ := eFd_ok p d k a h1
    rw [h a a1 a2] at a3; cases a3
/-- the first from k on that may lead b: 0 none, a + 1 box a -/
def qF (m : Nat) (N : rM) (b k : Nat) : Nat := match eFd (qMl m N b) (m - k) k with
  | none => 0
  | some a => a + 1
theorem qHo_00 (m : Nat) (N : rM) (d : Nat) : qHo m N d 0 ≤ 1 := by
  induction d with
  | zero => rw [qHo_0]; split <;> omega
  | succ d ih =>
    rw [qHo_s]; unfold qNx
    by_cases h : qHo m N d 0 = 0 ∧ eLiv N 0 = true ∧ ¬ eNum m (fun a => decide (qHo m N d a = d + 1) && (eLiv N a && eMate N 0 a)) = 0
    · exfalso
      have h0 : qHo m N 0 0 = 1 := by rw [qHo_0, if_pos ⟨rfl, h.2.1⟩]
      rw [qHo_keep' (d := 0) (by omega) (by omega), h0] at h
      exact absurd h.1 (by decide)
    · rw [if_neg h]; exact ih
theorem qMl_0 (m : Nat) (N : rM) (a : Nat) : qMl m N 0 a = false := by
  unfold qMl
  rw [decide_eq_false (by have := qHo_00 m N m; omega), Bool.false_and]
theorem qHo_from {m : Nat} {N : rM} (d b : Nat) : 2 ≤ qHo m N d b → ∃ d', d' < d ∧ qHo m N d b = d' + 2 ∧ ∃ a, a < m ∧ qHo m N d' a = d' + 1 ∧ eLiv N a = true ∧ eMate N b a = true := by
  induction d with
  | zero =>
    intro h
    rw [qHo_0] at h
    split at h <;> omega
  | succ d ih =>
    intro h
    by_cases hc : qHo m N d b = 0 ∧ eLiv N b = true ∧ ¬ eNum m (fun a => decide (qHo m N d a = d + 1) && (eLiv N a && eMate N b a)) = 0
    · refine ⟨d, by omega, by rw [qHo_s]; unfold qNx; rw [if_pos hc], ?_⟩
      have := hc.2.2
      rw [eNum_z, Classical.not_forall] at this
      obtain ⟨x, hx⟩ := this
      rw [Classical.not_imp] at hx
      have h3 := hx.2
      simp only [Bool.not_eq_false, Bool.and_eq_true, decide_eq_true_eq] at h3
      exact ⟨x, hx.1, h3.1, h3.2.1, h3.2.2⟩
    · have he : qHo m N (d + 1) b = qHo m N d b := by rw [qHo_s]; unfold qNx; rw [if_neg hc]
      rw [he] at h ⊢
      obtain ⟨d', h1, h2⟩ := ih h
      exact ⟨d', by omega, h2⟩
theorem qMl_ne {m b : Nat} {N : rM} (h : 2 ≤ qHo m N m b) : ∃ a, a < m ∧ qMl m N b a = true := by
  obtain ⟨d', h1, h2, a, h3, h4, h5, h6⟩ := qHo_from m b h
  refine ⟨a, h3, ?_⟩
  have h7 := qHo_keep' (d := d') (d' := m) (by omega) (show qHo m N d' a ≠ 0 by omega)
  unfold qMl
  rw [decide_eq_true h, h5, h6, decide_eq_true (by omega)]; rfl
theorem qF_0 {m b : Nat} {N : rM} : qF m N b 0 = 0 ↔ ¬ 2 ≤ qHo m N m b := by
  unfold qF
  constructor
  · intro h h2
    obtain ⟨a, h3, h4⟩ := qMl_ne h2
    cases h1 : eFd (qMl m N b) (m - 0) 0 with
    | none =>
      rw [eFd_nn h1 a (by omega) (by omega)] at h4; cases h4
    | some c => rw [h1] at h; cases h
  · intro h
    rw [eFd_no (fun j _ _ => by unfold qMl; rw [decide_eq_false h, Bool.false_and])]
theorem qF_s {m b k a : Nat} {N : rM} (h : eFd (qMl m N b) (m - k) k = some a) : qF m N b k = a + 1 := by
  unfold qF; rw [h]
theorem qF_lt {m b k : Nat} {N : rM} (hk : k ≤ m) : qF m N b k ≤ m := by
  unfold qF
  cases h1 : eFd (qMl m N b) (m - k) k with
  | none => exact Nat.zero_le m
  | some c =>
    obtain ⟨a1, a2, a3⟩ := eFd_ok _ _ _ _ h1
    show c + 1 ≤ m
    omega
/-! the reference's words of it -/
def qRd (m : Nat) (N0 N : rM) : Prop := eH [1346, 1347, 1348, 1350, 11249] N0 N ∧ ∀ b, b < m → rg N 1346 0 b = eM (qHo m N0 m b)
theorem may_e {m b a : Nat} {N0 N : rM} (hm : m ≤ 10) (h : qRd m N0 N) (hb : b < m) (ha : a < m) : m12_mayLead (nI b) (nI a) N = some (if qMl m N0 b a then 1 else 0, N) := by
  obtain ⟨i1, i2⟩ := h
  have hb10 : b < 10 := by omega
  have ha10 : a < 10 := by omega
  have lb := qHo_le m N0 m b
  have la := qHo_le m N0 m a
  have hmate : m12_areMates (nI a) (nI b) N = some (if eMate N0 b a then 1 else 0, N) := by
    have := mates_e hb10 ha10 N
    have e : eMate N b a = eMate N0 b a := by unfold eMate; rw [i1 1307 0 a rfl, i1 1307 0 b rfl]
    rw [e] at this; exact this
  unfold m12_mayLead qMl
  simp only [ezin_nI (show b < 10 by omega) (show 10 < 2 ^ 31 by decide), ex_nI (show b < 2 ^ 31 by omega), ezin_nI (show a < 10 by omega) (show 10 < 2 ^ 31 by decide), ex_nI (show a < 2 ^ 31 by omega), i2 b hb, i2 a ha, eM_pos (show qHo m N0 m b < 2 ^ 31 by omega), i1 1302 0 a rfl, hmate, zbd_s, zbv_s, zgd_t, Bool.and_true, Bool.true_and, Bool.and_self, if_true, if_false, e_01, eq_self, Bool.false_eq_true]
  by_cases h1 : qHo m N0 m b ≤ 1
  · rw [if_pos h1, decide_eq_false (show ¬ 2 ≤ qHo m N0 m b by omega)]; rfl
  · rw [if_neg h1, decide_eq_true (show 2 ≤ qHo m N0 m b by omega), Bool.true_and]
    by_cases h2 : rg N0 1302 0 a ≤ 0
    · have : eLiv N0 a = false := by unfold eLiv; simp [h2]
      rw [if_pos h2, this]; rfl
    · have : eLiv N0 a = true := by unfold eLiv; simp [h2]
      rw [if_neg h2, this, Bool.true_and]
      obtain ⟨x, hx⟩ : ∃ x, qHo m N0 m b = x + 2 := ⟨qHo m N0 m b - 2, by omega⟩
      have e1 : (eM (qHo m N0 m a) = eM (qHo m N0 m b) - 1) = (qHo m N0 m a + 1 = qHo m N0 m b) := by
        rw [hx, eM_s, nI_sub1, eM_nI (by omega) (by omega)]
        refine propext ?_; omega
      by_cases h3 : qHo m N0 m a + 1 = qHo m N0 m b
      · rw [if_pos (e1.mpr h3), decide_eq_true h3, Bool.true_and]
        cases eMate N0 b a <;> rfl
      · rw [if_neg (fun h => h3 (e1.mp h)), decide_eq_false h3]; rfl
theorem first_e {m b : Nat} {N0 N : rM} (hm : m ≤ 10) (h0 : rg N0 12 0 0 = nI m) (h : qRd m N0 N) (hb : b < m) : m12_firstFor (nI b) N = some (eM (qF m N0 b 0), N) := by
  have e0 : rg N 12 0 0 = nI m := by rw [h.1 12 0 0 rfl, h0]
  have n10 : ((1 : Int32) = 0) = False := eq_false (by decide)
  unfold m12_firstFor
  refine eloop (σ := Unit) (fun f k _ => m12_firstFor_2 f (nI b) (nI k) N = some (eM (qF m N0 b 0), N)) (fun k _ => ∀ j, j < k → qMl m N0 b j = false) (s := ()) (m := m) (k0 := 0) (by omega) ?_ ?_ (zfu_gt (by omega)) (fun j hj => absurd hj (by omega))
  · rintro f - hI
    have : qF m N0 b 0 = 0 := by
      unfold qF
      rw [eFd_no (fun j _ hj => hI j (by omega))]
    rw [m12_firstFor_2, e0, if_pos (by rw [eI_le (by omega) (by omega)]; omega), this, eM_0]
    unfold m12_firstFor_25
    rw [e0, if_pos (by rw [eI_le (by omega) (by omega)]; omega)]
  · rintro f k - hk0 hk hI ih
    rw [m12_firstFor_2]
    simp only [e0, eI_le (show m < 2 ^ 31 by omega) (show k < 2 ^ 31 by omega), show (m ≤ k) = False from eq_false (by omega), may_e hm h hb hk, m12_firstFor_25, ep1, zbd_s, zbv_s, zgd_t, Bool.and_true, Bool.true_and, Bool.and_self, if_true, if_false, e_01, eq_self, Bool.false_eq_true]
    cases hq : qMl m N0 b k
    · simp only [zbd_s, zbv_s, zgd_t, Bool.and_true, Bool.true_and, Bool.and_self, if_true, if_false, e_01, eq_self, Bool.false_eq_true]
      exact ih () (fun j hj => by
        by_cases hjk : j = k
        · rw [hjk]; exact hq
        · exact hI j (by omega))
    · simp only [n10, zbd_s, zbv_s, zgd_t, Bool.and_true, Bool.true_and, Bool.and_self, if_true, if_false, e_01, eq_self, Bool.false_eq_true]
      rw [qF_s (a := k) (eFd_mk (by omega) (by omega) hq (fun j _ hj => hI j hj)), eM_s]
theorem next30_e {m b a : Nat} {N0 N : rM} {P : Option (Int32 × rM) → Prop} (k7 : Int32 → rM → Option (Int32 × rM)) (hm : m ≤ 10) (h0 : rg N0 12 0 0 = nI m) (h : qRd m N0 N) (hb : b < m) (ha : a ≤ m) (hk : ∀ c, (qF m N0 b a = 0 ∧ c = m) ∨ (qF m N0 b a = c + 1 ∧ c < m) → P (m12_hasNextTree_53 k7 (nI b) (nI c) N)) : P (m12_hasNextTree_30 k7 zfu (nI b) (nI a) N) := by
  have e0 : rg N 12 0 0 = nI m := by rw [h.1 12 0 0 rfl, h0]
  have n10 : ((1 : Int32) = 0) = False := eq_false (by decide)
  refine eloop (σ := Unit) (fun f k _ => P (m12_hasNextTree_30 k7 f (nI b) (nI k) N)) (fun k _ => ∀ j, a ≤ j → j < k → qMl m N0 b j = false) (s := ()) (m := m) (k0 := a) ha ?_ ?_ (zfu_gt (by omega)) (fun j h1 h2 => absurd h2 (by omega))
  · rintro f - hI
    rw [m12_hasNextTree_30, e0, if_pos (by rw [eI_le (by omega) (by omega)]; omega)]
    refine hk m (.inl ⟨?_, rfl⟩)
    unfold qF
    rw [eFd_no (fun j h1 h2 => hI j h1 (by omega))]
  · rintro f k - hk0 hkm hI ih
    rw [m12_hasNextTree_30]
    simp only [e0, eI_le (show m < 2 ^ 31 by omega) (show k < 2 ^ 31 by omega), show (m ≤ k) = False from eq_false (by omega), may_e hm h hb hkm, ep1, zbd_s, zbv_s, zgd_t, Bool.and_true, Bool.true_and, Bool.and_self, if_true, if_false, e_01, eq_self, Bool.false_eq_true]
    cases hq : qMl m N0 b k
    · simp only [zbd_s, zbv_s, zgd_t, Bool.and_true, Bool.true_and, Bool.and_self, if_true, if_false, e_01, eq_self, Bool.false_eq_true]
      exact ih () (fun j h1 h2 => by
        by_cases hjk : j = k
        · rw [hjk]; exact hq
        · exact hI j h1 (by omega))
    · simp only [n10, zbd_s, zbv_s, zgd_t, Bool.and_true, Bool.true_and, Bool.and_self, if_true, if_false, e_01, eq_self, Bool.false_eq_true]
      exact hk k (.inr ⟨qF_s (a := k) (eFd_mk (by omega) (by omega) hq (fun j h1 h2 => hI j h1 h2)), hkm⟩)
/-! the class's words of it -/
def qLow (a : Nat) : Nat := match eFd (fun j => a.testBit j) 10 0 with
  | some j => j
  | none => 32
theorem ntz_aux : ∀ a : Nat, a < 1024 → (mJ6_numberOfTrailingZeros (nI a) cM0).map (fun q => q.1) = some (nI (qLow a)) := by decide +kernel
theorem ntz_M (x : Int32) (M : cM) : mJ6_numberOfTrailingZeros x M = (mJ6_numberOfTrailingZeros x cM0).map (fun q => (q.1, M)) := by
  unfold mJ6_numberOfTrailingZeros mJ6_numberOfTrailingZeros_34 mJ6_numberOfTrailingZeros_49 mJ6_numberOfTrailingZeros_62 mJ6_numberOfTrailingZeros_74
  repeat' split
  all_goals rfl
theorem ntz_set {m a : Nat} {p : Nat → Bool} (hm : m ≤ 10) (h : eFd p m 0 = some a) (M : cM) : mJ6_numberOfTrailingZeros (eSet m p) M = some (nI a, M) := by
  obtain ⟨x, hx, e, -⟩ := eBc_set hm p
  have hb : ∀ j, x.testBit j = (decide (j < m) && p j) := fun j => by
    rw [← eb_nI x j (by omega), ← e, eb_set (by omega)]
  obtain ⟨a1, a2, a3⟩ := eFd_ok p m 0 a h
  have hl : qLow x = a := by
    unfold qLow
    rw [eFd_mk (a := a) (by omega) (by omega) (by rw [hb, a3, decide_eq_true (by omega)]; rfl) (fun j h1 h2 => by
      rw [hb, eFd_min h j h1 h2, Bool.and_false])]
  have := ntz_aux x hx
  rw [hl] at this
  rw [e, ntz_M]
  cases hq : mJ6_numberOfTrailingZeros (nI x) cM0 with
  | none => rw [hq] at this; cases this
  | some q =>
    rw [hq] at this
    simp only [Option.map_some, Option.some.injEq] at this ⊢
    rw [this]
theorem eb_up : ∀ a : Nat, a < 10 → ∀ j : Nat, j < 32 → eb (-(zshl 2 (nI a))) j = decide (a < j) := by decide +kernel
theorem up_set {m a : Nat} {p : Nat → Bool} (hm : m ≤ 10) (ha : a < 10) : eSet m p &&& -(zshl 2 (nI a)) = eSet m (fun j => p j && decide (a < j)) := by
  refine eb_ext (fun j hj => ?_)
  rw [eb_and, eb_set (by omega), eb_set (by omega), eb_up a ha j hj, Bool.and_assoc]
