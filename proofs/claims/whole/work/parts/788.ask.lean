/-! ask, the reference -/
theorem empty_e {x : Nat} {MR : rM} (hx : x ≤ 10) : ∃ MR', m12_emptySum (nI x) MR = some MR' ∧ eH [1316] MR MR' ∧ ∀ j, rg MR' 1316 0 j = if 5 * x ≤ j ∧ j < 5 * x + 5 then 0 else rg MR 1316 0 j := by
  unfold m12_emptySum
  refine eloop (σ := rM) (fun f k M => ∃ MR', m12_emptySum_2 f (nI x) (nI k) M = some MR' ∧ eH [1316] MR MR' ∧ ∀ j, rg MR' 1316 0 j = if 5 * x ≤ j ∧ j < 5 * x + 5 then 0 else rg MR 1316 0 j) (fun k M => eH [1316] MR M ∧ ∀ j, rg M 1316 0 j = if 5 * x ≤ j ∧ j < 5 * x + k then 0 else rg MR 1316 0 j) (m := 5) (k0 := 0) (by omega) ?_ ?_ (zfu_gt (by omega)) ⟨eH_refl, fun j => by rw [if_neg (by omega)]⟩
  · rintro f M ⟨i1, i2⟩
    refine ⟨M, ?_, i1, i2⟩
    rw [m12_emptySum_2, if_pos (by decide)]
  · rintro f k M hk0 hk ⟨i1, i2⟩ ih
    have e5 : (5 : Int32) * nI x + nI k = nI (5 * x + k) := by rw [show (5 : Int32) = nI 5 from rfl, eI_mul, eI_add]
    rw [m12_emptySum_2]
    simp only [show ((5 : Int32) ≤ nI k) = False from eq_false (by rw [show (5 : Int32) = nI 5 from rfl, eI_le (by omega) (by omega)]; omega), e5, ezin_nI (show 5 * x + k < 55 by omega) (show 55 < 2 ^ 31 by decide), ex_nI (show 5 * x + k < 2 ^ 31 by omega), ep1, zbd_s, zbv_s, zgd_t, Bool.and_true, Bool.true_and, Bool.and_self, if_true, if_false, e_01, eq_self, Bool.false_eq_true]
    refine ih _ ⟨eH_rs i1 rfl, fun j => ?_⟩
    rw [rg_rs]
    by_cases hj : j = 5 * x + k
    · rw [if_pos ⟨rfl, rfl, hj⟩, if_pos (by omega)]
    · rw [if_neg (fun h => hj h.2.2), i2 j]
      by_cases hc : 5 * x ≤ j ∧ j < 5 * x + k
      · rw [if_pos hc, if_pos (by omega)]
      · rw [if_neg hc, if_neg (by omega)]
theorem ask86_e {MR : rM} : ∃ MR', m12_ask_86 zfu 0 MR = some (rg MR 12 0 41, MR') ∧ eH [1317, 11228] MR MR' ∧ (∀ b, b < 10 → rg MR' 1317 0 b = 0) ∧ rg MR' 12 0 28 = 0 := by
  refine eloop (σ := rM) (fun f k M => ∃ MR', m12_ask_86 f (nI k) M = some (rg MR 12 0 41, MR') ∧ eH [1317, 11228] MR MR' ∧ (∀ b, b < 10 → rg MR' 1317 0 b = 0) ∧ rg MR' 12 0 28 = 0) (fun k M => eH [1317] MR M ∧ ∀ b, b < k → rg M 1317 0 b = 0) (m := 10) (k0 := 0) (by omega) ?_ ?_ (zfu_gt (by omega)) ⟨eH_refl, fun b hb => absurd hb (by omega)⟩
  · rintro f M ⟨i1, i2⟩
    refine ⟨rs M 12 0 28 0, ?_, eH_rs (eH_mono i1 rfl) rfl, fun b hb => i2 b hb, rfl⟩
    rw [m12_ask_86, if_pos (by decide)]
    have : rg (rs M 12 0 28 0) 12 0 41 = rg MR 12 0 41 := i1 12 0 41 rfl
    rw [this]
  · rintro f k M hk0 hk ⟨i1, i2⟩ ih
    rw [m12_ask_86]
    simp only [show ((10 : Int32) ≤ nI k) = False from eq_false (by rw [show (10 : Int32) = nI 10 from rfl, eI_le (by omega) (by omega)]; omega), ezin_nI (show k < 10 by omega) (show 10 < 2 ^ 31 by decide), ex_nI (show k < 2 ^ 31 by omega), ep1, zbd_s, zbv_s, zgd_t, Bool.and_true, Bool.true_and, Bool.and_self, if_true, if_false, e_01, eq_self, Bool.false_eq_true]
    refine ih _ ⟨eH_rs i1 rfl, fun b hb => ?_⟩
    rw [rg_rs]
    by_cases hbk : b = k
    · rw [if_pos ⟨rfl, rfl, hbk⟩]; rfl
    · rw [if_neg (fun h => hbk h.2.2)]; exact i2 b (by omega)
theorem ask67_e {MR : rM} : ∃ MR', m12_ask_67 zfu 0 MR = some (rg MR 12 0 41, MR') ∧ eH [1316, 1317, 11228] MR MR' ∧ (∀ j, j < 55 → rg MR' 1316 0 j = 0) ∧ (∀ b, b < 10 → rg MR' 1317 0 b = 0) ∧ rg MR' 12 0 28 = 0 := by
  refine eloop (σ := rM) (fun f k M => ∃ MR', m12_ask_67 f (nI k) M = some (rg MR 12 0 41, MR') ∧ eH [1316, 1317, 11228] MR MR' ∧ (∀ j, j < 55 → rg MR' 1316 0 j = 0) ∧ (∀ b, b < 10 → rg MR' 1317 0 b = 0) ∧ rg MR' 12 0 28 = 0) (fun k M => eH [1316] MR M ∧ ∀ j, j < 5 * k → rg M 1316 0 j = 0) (m := 11) (k0 := 0) (by omega) ?_ ?_ (zfu_gt (by omega)) ⟨eH_refl, fun b hb => absurd hb (by omega)⟩
  · rintro f M ⟨i1, i2⟩
    obtain ⟨MR', a1, a2, a3, a4⟩ := ask86_e (MR := M)
    refine ⟨MR', ?_, eH_trans (eH_mono i1 rfl) (eH_mono a2 rfl), fun j hj => by rw [a2 1316 0 j rfl]; exact i2 j hj, a3, a4⟩
    rw [m12_ask_67, if_pos (by decide), a1, i1 12 0 41 rfl]
  · rintro f k M hk0 hk ⟨i1, i2⟩ ih
    obtain ⟨M', a1, a2, a3⟩ := empty_e (x := k) (MR := M) (by omega)
    rw [m12_ask_67]
    simp only [show ((11 : Int32) ≤ nI k) = False from eq_false (by rw [show (11 : Int32) = nI 11 from rfl, eI_le (by omega) (by omega)]; omega), a1, ep1, zbd_s, zbv_s, zgd_t, Bool.and_true, Bool.true_and, Bool.and_self, if_true, if_false, e_01, eq_self, Bool.false_eq_true]
    refine ih M' ⟨eH_trans i1 a2, fun j hj => ?_⟩
    rw [a3]
    by_cases hc : 5 * k ≤ j ∧ j < 5 * k + 5
    · rw [if_pos hc]
    · rw [if_neg hc]; exact i2 j (by omega)
theorem ask36_e {m : Nat} {MR : rM} (hm : m ≤ 10) (h0 : rg MR 12 0 0 = nI m) {Q : Nat → Nat} (hQ : ∀ b, b < m → Q b ≤ 4 ∧ rg MR 1314 0 b = nI (Q b) ∧ ∀ k, k < Q b → rg MR 1315 0 (24 * b + 6 * k) = 0 → rg MR 1315 0 (24 * b + 6 * k + 1) ≠ -1) : ∃ MR', m12_ask_36 zfu 0 MR = some (rg MR 12 0 41, MR') ∧ eH [1343, 1314, 1315, 1316, 1317, 11228] MR MR' ∧ (∀ j, j < 24 → rg MR' 1343 0 j = rg MR 1339 0 j) ∧ (∀ b, b < m → eWo b (Q b) MR MR') ∧ (∀ b, m ≤ b → rg MR' 1314 0 b = rg MR 1314 0 b) ∧ (∀ j, j < 55 → rg MR' 1316 0 j = 0) ∧ (∀ b, b < 10 → rg MR' 1317 0 b = 0) ∧ rg MR' 12 0 28 = 0 := by
  refine eloop (σ := rM) (fun f k M => ∃ MR', m12_ask_36 f (nI k) M = some (rg MR 12 0 41, MR') ∧ eH [1343, 1314, 1315, 1316, 1317, 11228] MR MR' ∧ (∀ j, j < 24 → rg MR' 1343 0 j = rg MR 1339 0 j) ∧ (∀ b, b < m → eWo b (Q b) MR MR') ∧ (∀ b, m ≤ b → rg MR' 1314 0 b = rg MR 1314 0 b) ∧ (∀ j, j < 55 → rg MR' 1316 0 j = 0) ∧ (∀ b, b < 10 → rg MR' 1317 0 b = 0) ∧ rg MR' 12 0 28 = 0) (fun k M => eH [1343] MR M ∧ ∀ j, j < k → rg M 1343 0 j = rg MR 1339 0 j) (m := 24) (k0 := 0) (by omega) ?_ ?_ (zfu_gt (by omega)) ⟨eH_refl, fun b hb => absurd hb (by omega)⟩
  · rintro f M ⟨i1, i2⟩
    have e1 : eRw M = eRw MR := by
      funext b k
      unfold eRw
      rw [i1 1315 0 _ rfl, i1 1315 0 _ rfl]
    obtain ⟨M1, a1, a2, a3, a4⟩ := takes_e (MR := M) (Q := Q) hm (by rw [i1 12 0 0 rfl, h0]) (fun b hb => by
      simp only [i1 1314 0 b rfl, fun k => i1 1315 0 k rfl]
      exact hQ b hb)
    obtain ⟨M2, b1, b2, b3, b4, b5⟩ := ask67_e (MR := M1)
    refine ⟨M2, ?_, eH_trans (eH_mono i1 rfl) (eH_trans (eH_mono a2 rfl) (eH_mono b2 rfl)), fun j hj => ?_, fun b hb => ?_, fun b hb => ?_, b3, b4, b5⟩
    · rw [m12_ask_36, if_pos (by decide), a1, zbd_s, b1, a2 12 0 41 rfl, i1 12 0 41 rfl]
    · rw [b2 1343 0 j rfl, a2 1343 0 j rfl]; exact i2 j hj
    · obtain ⟨w1, w2⟩ := a3 b hb
      unfold eWo
      rw [← e1, b2 1314 0 b rfl]
      exact ⟨w1, fun i hi => by rw [b2 1315 0 _ rfl, b2 1315 0 _ rfl]; exact w2 i hi⟩
    · rw [b2 1314 0 b rfl, (a4 b hb).1, i1 1314 0 b rfl]
  · rintro f k M hk0 hk ⟨i1, i2⟩ ih
    rw [m12_ask_36]
    simp only [show ((24 : Int32) ≤ nI k) = False from eq_false (by rw [show (24 : Int32) = nI 24 from rfl, eI_le (by omega) (by omega)]; omega), ezin_nI (show k < 24 by omega) (show 24 < 2 ^ 31 by decide), ex_nI (show k < 2 ^ 31 by omega), ep1, zbd_s, zbv_s, zgd_t, Bool.and_true, Bool.true_and, Bool.and_self, if_true, if_false, e_01, eq_self, Bool.false_eq_true]
    refine ih _ ⟨eH_rs i1 rfl, fun j hj => ?_⟩
    rw [rg_rs]
    by_cases hjk : j = k
    · rw [if_pos ⟨rfl, rfl, hjk⟩, hjk]; exact i1 1339 0 k rfl
    · rw [if_neg (fun h => hjk h.2.2)]; exact i2 j (by omega)
