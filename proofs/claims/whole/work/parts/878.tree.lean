/-! the life of the first of them -/
def qKd (m : Nat) (tr : Nat → Nat) (b : Nat) : Nat := eNum m (fun a => decide (tr a = b + 1))
def qV (N : rM) (t m : Nat) (tr : Nat → Nat) (b : Nat) : Nat := eLf N b t (qHp m N b) (qKd m tr b)
/-- the least as far as k: 0 none, v + 1 -/
def qLs (N : rM) (t m : Nat) (tr : Nat → Nat) : Nat → Nat
  | 0 => 0
  | k + 1 => if eLiv N k = true then (if qLs N t m tr k = 0 ∨ qV N t m tr k + 1 < qLs N t m tr k then qV N t m tr k + 1 else qLs N t m tr k) else qLs N t m tr k
theorem qLs_s (N : rM) (t m : Nat) (tr : Nat → Nat) (k : Nat) : qLs N t m tr (k + 1) = if eLiv N k = true then (if qLs N t m tr k = 0 ∨ qV N t m tr k + 1 < qLs N t m tr k then qV N t m tr k + 1 else qLs N t m tr k) else qLs N t m tr k := rfl
theorem qV_le (N : rM) (t m : Nat) (tr : Nat → Nat) (b : Nat) : qV N t m tr b ≤ 1000 := eLf_le N b t _ _
theorem qLs_le (N : rM) (t m : Nat) (tr : Nat → Nat) (k : Nat) : qLs N t m tr k ≤ 1001 := by
  induction k with
  | zero => show 0 ≤ 1001; omega
  | succ k ih =>
    have := qV_le N t m tr k
    rw [qLs_s]
    split
    · split <;> omega
    · exact ih
/-- a tree is one that may be -/
def qOk (m : Nat) (N : rM) (tr : Nat → Nat) : Prop := tr 0 = 0 ∧ ∀ b, b < m → (tr b = 0 ↔ qF m N b 0 = 0) ∧ ∀ a, tr b = a + 1 → a < m ∧ qMl m N b a = true
theorem qKd_lt {m : Nat} {N : rM} {tr : Nat → Nat} (hm1 : 0 < m) (h : qOk m N tr) (b : Nat) : qKd m tr b < m := by
  unfold qKd
  exact eNum_lt (j := 0) hm1 (by rw [h.1]; simp)
theorem least_c {m t : Nat} {MC0 M : cM} {MR : rM} {tr : Nat → Nat} (hm : m ≤ 10) (hm1 : 0 < m) (h0 : cg M 3 0 4 = nI m) (ht : qOk m MR tr) (h605 : ∀ b, b < m → cg M 605 0 b = eM (tr b)) (h602 : ∀ b c, b < m → c < 10 → cg M 602 0 (10 * b + c) = nI (eLf MR b t (qHp m MR b) c)) : ∃ M', m5_leastLife (eSet m (eLiv MR)) M = some (nI (if qLs MR t m tr m = 0 then 1000 else qLs MR t m tr m - 1), M') ∧ eF [607] M M' ∧ M'.2 = M.2 := by
  obtain ⟨M1, a1, a2, a3, a4⟩ := fill607 0 M
  unfold m5_leastLife
  rw [a1, zbv_s]
  have last : ∀ M', eF [607] M M' → M'.2 = M.2 → (∀ j, j < m → cg M' 607 0 j = nI (qKd m tr j)) → ∃ M'', m5_leastLife_60 (eSet m (eLiv MR)) M' = some (nI (if qLs MR t m tr m = 0 then 1000 else qLs MR t m tr m - 1), M'') ∧ eF [607] M M'' ∧ M''.2 = M.2 := by
    intro M' i1 i2 i3
    refine ⟨M', ?_, i1, i2⟩
    unfold m5_leastLife_60
    have e34 : cg M' 3 0 4 = nI m := by rw [i1 3 0 4 rfl, h0]
    refine eloop0 (fun f k => m5_leastLife_66 f (eSet m (eLiv MR)) (nI (if qLs MR t m tr k = 0 then 1000 else qLs MR t m tr k - 1)) (nI k) M' = some (nI (if qLs MR t m tr m = 0 then 1000 else qLs MR t m tr m - 1), M')) (Nat.zero_le m) ?_ ?_ (zfu_gt (by omega))
    · intro f
      rw [m5_leastLife_66, e34, if_pos (by rw [eI_le (by omega) (by omega)]; omega)]
    · intro f k _ hk ih
      have hkd := qKd_lt hm1 ht k
      have hv := qV_le MR t m tr k
      have hl := qLs_le MR t m tr k
      have e6 : cg M' 602 0 (10 * k + qKd m tr k) = nI (qV MR t m tr k) := by rw [i1 602 0 _ rfl]; exact h602 k _ hk (by omega)
      rw [m5_leastLife_66]
      simp only [e34, eI_le (show m < 2 ^ 31 by omega) (show k < 2 ^ 31 by omega), show (m ≤ k) = False from eq_false (by omega), show ((10 : Int32) ≤ nI k) = False from eq_false (by rw [show (10 : Int32) = nI 10 from rfl, eI_le (by omega) (by omega)]; omega), zshr1_1 (show k < 32 by omega), eb_set (show m ≤ 31 by omega), decide_eq_true hk, Bool.true_and, ezin_nI (show k < 10 by omega) (show 10 < 2 ^ 31 by decide), ex_nI (show k < 2 ^ 31 by omega), i3 k hk, lifeW_c (show k < 10 by omega) (show qKd m tr k < 10 by omega), e6, min_c, m5_leastLife_108, ep1, zbd_s, zbv_s, zgd_t, Bool.and_true, Bool.true_and, Bool.and_self, if_true, if_false, e_01, eq_self, Bool.false_eq_true]
      rw [← ih, qLs_s]
      by_cases hlv : eLiv MR k = true
      · rw [if_pos hlv, if_pos hlv]
        congr 1
        obtain ⟨X, hX⟩ : ∃ X, X = qLs MR t m tr k := ⟨_, rfl⟩
        obtain ⟨V, hV⟩ : ∃ V, V = qV MR t m tr k := ⟨_, rfl⟩
        rw [← hX] at hl ⊢
        rw [← hV] at hv ⊢
        by_cases hX0 : X = 0
        · rw [if_pos hX0, if_pos (Or.inl hX0), if_neg (show ¬ V + 1 = 0 by omega), Nat.add_sub_cancel]
          have e : (nI 1000 ≤ nI V) = (1000 ≤ V) := eI_le (by omega) (by omega)
          by_cases h1 : 1000 ≤ V
          · rw [if_pos (e.mpr h1), show V = 1000 by omega]
          · rw [if_neg (fun h => h1 (e.mp h))]
        · have e : (nI (X - 1) ≤ nI V) = (X - 1 ≤ V) := eI_le (by omega) (by omega)
          rw [if_neg hX0]
          by_cases h1 : X - 1 ≤ V
          · rw [if_pos (e.mpr h1), if_neg (show ¬ (X = 0 ∨ V + 1 < X) by omega), if_neg hX0]
          · rw [if_neg (fun h => h1 (e.mp h)), if_pos (show (X = 0 ∨ V + 1 < X) by omega), if_neg (show ¬ V + 1 = 0 by omega), Nat.add_sub_cancel]
      · rw [if_neg hlv, if_neg hlv]
  have st : (1 : Int32) = nI 1 := rfl
  rw [st]
  refine eloop (σ := cM) (fun f k M' => ∃ M'', m5_leastLife_10 f (eSet m (eLiv MR)) (nI k) M' = some (nI (if qLs MR t m tr m = 0 then 1000 else qLs MR t m tr m - 1), M'') ∧ eF [607] M M'' ∧ M''.2 = M.2) (fun k M' => eF [607] M M' ∧ M'.2 = M.2 ∧ ∀ j, j < 10 → cg M' 607 0 j = nI (eNum k (fun a => decide (tr a = j + 1)))) (m := m) (k0 := 1) (by omega) ?_ ?_ (zfu_gt (by omega)) ⟨a2, a3, fun j hj => ?_⟩
  · rintro f M' ⟨i1, i2, i3⟩
    rw [m5_leastLife_10, i1 3 0 4 rfl, h0, if_pos (by rw [eI_le (by omega) (by omega)]; omega)]
    exact last M' i1 i2 (fun j hj => i3 j (by omega))
  · rintro f k M' hk1 hk ⟨i1, i2, i3⟩ ih
    have hk10 : k < 10 := by omega
    have ev : cg M' 605 0 k = eM (tr k) := by rw [i1 605 0 k rfl]; exact h605 k hk
    have htk : tr k ≤ m := by
      cases h : tr k with
      | zero => omega
      | succ a => have := ((ht.2 k hk).2 a h).1; omega
    rw [m5_leastLife_10]
    simp only [i1 3 0 4 rfl, h0, eI_le (show m < 2 ^ 31 by omega) (show k < 2 ^ 31 by omega), show (m ≤ k) = False from eq_false (by omega), show ((10 : Int32) ≤ nI k) = False from eq_false (by rw [show (10 : Int32) = nI 10 from rfl, eI_le (by omega) (by omega)]; omega), ezin_nI (show k < 10 by omega) (show 10 < 2 ^ 31 by decide), ex_nI (show k < 2 ^ 31 by omega), ev, eM_neg (tr k) (by omega), m5_leastLife_54, ep1, zbd_s, zbv_s, zgd_t, Bool.and_true, Bool.true_and, Bool.and_self, if_true, if_false, e_01, eq_self, Bool.false_eq_true]
    by_cases hz : tr k = 0
    · rw [if_pos hz]
      refine ih M' ⟨i1, i2, fun j hj => ?_⟩
      rw [i3 j hj, eNum_s, hz]
      simp
    · rw [if_neg hz]
      obtain ⟨x, hx⟩ : ∃ x, tr k = x + 1 := ⟨tr k - 1, by omega⟩
      have hx10 : x < 10 := by omega
      simp only [hx, eM_s, show ((10 : Int32) ≤ nI x) = False from eq_false (by rw [show (10 : Int32) = nI 10 from rfl, eI_le (by omega) (by omega)]; omega), ezin_nI (show x < 10 by omega) (show 10 < 2 ^ 31 by decide), ex_nI (show x < 2 ^ 31 by omega), i3 x hx10, ep1, zbd_s, zbv_s, zgd_t, Bool.and_true, Bool.true_and, Bool.and_self, if_true, if_false, e_01, eq_self, Bool.false_eq_true]
      refine ih _ ⟨eF_cs i1 rfl, i2, fun j hj => ?_⟩
      rw [cg_cs, eNum_s, hx]
      by_cases hjx : j = x
      · rw [if_pos ⟨rfl, rfl, hjx⟩, hjx]; simp
      · rw [if_neg (fun h => hjx h.2.2), i3 j hj, decide_eq_false (show ¬ x + 1 = j + 1 by omega)]; simp
  · rw [a4 j hj, eNum_s, ht.1]; rfl
theorem least_e {m t : Nat} {MR N : rM} {tr : Nat → Nat} (hm : m ≤ 10) (hm1 : 0 < m) (h0 : rg MR 12 0 0 = nI m) (hrd : qRd m MR N) (ht : qOk m MR tr) (h47 : ∀ b, b < m → rg N 1347 0 b = eM (tr b)) (h50 : ∀ b c, b < m → c < 10 → rg N 1350 0 (20 * b + 2 * c) = nI (eLf MR b t false c) ∧ rg N 1350 0 (20 * b + 2 * c + 1) = nI (eLf MR b t true c)) : m12_leastLife N = some (eM (qLs MR t m tr m), N) := by
  have e0 : rg N 12 0 0 = nI m := by rw [hrd.1 12 0 0 rfl, h0]
  unfold m12_leastLife
  rw [← eM_0]
  refine eloop0 (fun f k => m12_leastLife_4 f (eM (qLs MR t m tr k)) (nI k) N = some (eM (qLs MR t m tr m), N)) (Nat.zero_le m) ?_ ?_ (zfu_gt (by omega))
  · intro f
    rw [m12_leastLife_4, e0, if_pos (by rw [eI_le (by omega) (by omega)]; omega)]
  · intro f k _ hk ih
    have hk10 : k < 10 := by omega
    have hv := qV_le MR t m tr k
    have hl := qLs_le MR t m tr k
    rw [m12_leastLife_4]
    simp only [e0, eI_le (show m < 2 ^ 31 by omega) (show k < 2 ^ 31 by omega), show (m ≤ k) = False from eq_false (by omega), ezin_nI (show k < 10 by omega) (show 10 < 2 ^ 31 by decide), ex_nI (show k < 2 ^ 31 by omega), hrd.1 1302 0 k rfl, m12_leastLife_109, ep1, zbd_s, zbv_s, zgd_t, Bool.and_true, Bool.true_and, Bool.and_self, if_true, if_false, e_01, eq_self, Bool.false_eq_true]
    rw [qLs_s] at ih
    by_cases hlv : rg MR 1302 0 k ≤ 0
    · have : eLiv MR k = false := by unfold eLiv; simp [hlv]
      rw [if_neg (by rw [this]; decide)] at ih
      rw [if_pos hlv]; exact ih
    · have : eLiv MR k = true := by unfold eLiv; simp [hlv]
      rw [if_pos this] at ih
      rw [if_neg hlv]
      refine eloop0 (fun f' a => m12_leastLife_26 (m12_leastLife_4 f) f' (eM (qLs MR t m tr k)) (nI k) (nI (eNum a (fun c => decide (tr c = k + 1)))) (nI a) N = some (eM (qLs MR t m tr m), N)) (Nat.zero_le m) ?_ ?_ (zfu_gt (by omega))
      · intro f'
        have hkd := qKd_lt hm1 ht k
        have hkd' : eNum m (fun c => decide (tr c = k + 1)) = qKd m tr k := rfl
        have e20 : (20 : Int32) * nI k + 2 * nI (qKd m tr k) = nI (20 * k + 2 * qKd m tr k) := by rw [show (20 : Int32) = nI 20 from rfl, show (2 : Int32) = nI 2 from rfl, eI_mul, eI_mul, eI_add]
        obtain ⟨w1, w2⟩ := h50 k (qKd m tr k) hk (by omega)
        obtain ⟨u1, u2⟩ := ht.2 k hk
        have htk : tr k ≤ m := by
          cases h : tr k with
          | zero => omega
          | succ a => have := (u2 a h).1; omega
        rw [m12_leastLife_26, e0, if_pos (by rw [eI_le (by omega) (by omega)]; omega), hkd', e20]
        -- the value at hand
        have fin : ∀ v, v = qV MR t m tr k → (if eM (qLs MR t m tr k) = -1 then m12_leastLife_4 f (nI v) (nI (k + 1)) N else if eM (qLs MR t m tr k) ≤ nI v then m12_leastLife_4 f (eM (qLs MR t m tr k)) (nI (k + 1)) N else m12_leastLife_4 f (nI v) (nI (k + 1)) N) = some (eM (qLs MR t m tr m), N) := by
          intro v hvv
          rw [← hvv] at ih hv
          obtain ⟨X, hX⟩ : ∃ X, X = qLs MR t m tr k := ⟨_, rfl⟩
          rw [← hX] at ih hl ⊢
          by_cases hX0 : X = 0
          · rw [if_pos ((eM_m1 (by omega)).mpr hX0)]
            rw [if_pos (Or.inl hX0), eM_s] at ih; exact ih
          · rw [if_neg (fun h => hX0 ((eM_m1 (by omega)).mp h))]
            obtain ⟨Y, hY⟩ : ∃ Y, X = Y + 1 := ⟨X - 1, by omega⟩
            subst hY
            rw [eM_s]
            have e : (nI Y ≤ nI v) = (Y ≤ v) := eI_le (by omega) (by omega)
            by_cases h1 : Y ≤ v
            · rw [if_pos (e.mpr h1)]
              rw [if_neg (show ¬ (Y + 1 = 0 ∨ v + 1 < Y + 1) by omega), eM_s] at ih; exact ih
            · rw [if_neg (fun h => h1 (e.mp h))]
              rw [if_pos (show (Y + 1 = 0 ∨ v + 1 < Y + 1) by omega), eM_s] at ih; exact ih
        simp only [ezin_nI (show k < 10 by omega) (show 10 < 2 ^ 31 by decide), ex_nI (show k < 2 ^ 31 by omega), h47 k hk, eM_m1 (show tr k < 2 ^ 31 by omega), m12_leastLife_87, m12_leastLife_108, m12_leastLife_109, zbd_s, zbv_s, zgd_t, Bool.and_true, Bool.true_and, Bool.and_self, if_true, if_false, e_01, eq_self, Bool.false_eq_true]
        by_cases hz : tr k = 0
        · have hq : qV MR t m tr k = eLf MR k t false (qKd m tr k) := by
            unfold qV qHp
            rw [decide_eq_true (u1.mp hz)]; rfl
          rw [if_pos hz]
          simp only [Int32.add_zero, ezin_nI (show 20 * k + 2 * qKd m tr k < 200 by omega) (show 200 < 2 ^ 31 by decide), ex_nI (show 20 * k + 2 * qKd m tr k < 2 ^ 31 by omega), w1, ep1, zbd_s, zbv_s, zgd_t, Bool.and_true, Bool.true_and, Bool.and_self, if_true, if_false, e_01, eq_self, Bool.false_eq_true]
          exact fin _ hq.symm
        · have hq : qV MR t m tr k = eLf MR k t true (qKd m tr k) := by
            unfold qV qHp
            rw [decide_eq_false (fun h => hz (u1.mpr h))]; rfl
          rw [if_neg hz]
          simp only [ep1, ezin_nI (show 20 * k + 2 * qKd m tr k + 1 < 200 by omega) (show 200 < 2 ^ 31 by decide), ex_nI (show 20 * k + 2 * qKd m tr k + 1 < 2 ^ 31 by omega), w2, zbd_s, zbv_s, zgd_t, Bool.and_true, Bool.true_and, Bool.and_self, if_true, if_false, e_01, eq_self, Bool.false_eq_true]
          exact fin _ hq.symm
      · intro f' a _ ha ih2
        have hta : tr a ≤ m := by
          cases h : tr a with
          | zero => omega
          | succ c => have := ((ht.2 a ha).2 c h).1; omega
        rw [m12_leastLife_26]
        simp only [e0, eI_le (show m < 2 ^ 31 by omega) (show a < 2 ^ 31 by omega), show (m ≤ a) = False from eq_false (by omega), ezin_nI (show a < 10 by omega) (show 10 < 2 ^ 31 by decide), ex_nI (show a < 2 ^ 31 by omega), h47 a ha, eM_nI (show tr a < 2 ^ 31 by omega) (show k + 1 < 2 ^ 31 by omega), m12_leastLife_52, ep1, zbd_s, zbv_s, zgd_t, Bool.and_true, Bool.true_and, Bool.and_self, if_true, if_false, e_01, eq_self, Bool.false_eq_true]
        rw [eNum_s] at ih2
        by_cases h1 : tr a = k + 1
        · rw [if_pos h1]
          rw [decide_eq_true h1, if_pos rfl] at ih2
          exact ih2
        · rw [if_neg h1, Int32.add_zero]
          rw [decide_eq_false h1, if_neg (show ¬ (false = true) by decide), Nat.add_zero] at ih2
          exact ih2
