/-! an epoch begins, the reference -/
theorem join0_e {x b : Nat} (hx : x ≤ 10) (v : Int32) (M : rM) (h0 : ∀ s, s < 5 → rg M 1316 0 (5 * x + s) = 0) : ∃ M', m12_join (nI x) v v 1 v (zshl 1 (nI b)) M = some M' ∧ eH [1316] M M' ∧ (∀ j, j < 5 * x ∨ 5 * x + 5 ≤ j → rg M' 1316 0 j = rg M 1316 0 j) ∧ ∀ s, s < 5 → rg M' 1316 0 (5 * x + s) = eSs (some v) b s := by
  obtain ⟨M', a1, a2, a3, a4, a5, a6, a7, a8⟩ := join12_e hx v v 1 v (zshl 1 (nI b)) M
  have z0 := h0 0 (by omega)
  have z1 := h0 1 (by omega)
  have z2 := h0 2 (by omega)
  have z3 := h0 3 (by omega)
  have z4 := h0 4 (by omega)
  rw [if_pos z2] at a4 a5
  rw [z2, Int32.zero_add] at a6
  rw [z3, Int32.zero_add] at a7
  rw [z4, Int32.zero_or] at a8
  refine ⟨M', a1, a2, a3, fun s hs => ?_⟩
  have : s = 0 ∨ s = 1 ∨ s = 2 ∨ s = 3 ∨ s = 4 := by omega
  rcases this with rfl | rfl | rfl | rfl | rfl
  · exact a4
  · exact a5
  · exact a6
  · exact a7
  · exact a8
theorem eSs_none (b s : Nat) : eSs none b s = 0 := by
  match s with
  | 0 => rfl
  | 1 => rfl
  | 2 => rfl
  | 3 => rfl
  | _ + 4 => rfl
/-- an own sum unsaid -/
def eUn (M : rM) (b : Nat) : Nat := if rg M 1316 0 (5 * b + 2) ≤ 0 then 0 else if rg M 1317 0 b = 0 then 1 else 0
/-- what box b starts with, being up or not -/
def eVu (M : rM) (c t b : Nat) : Option Int32 := if rg M 1322 0 b = 0 then none else eVlu M c t b
/-- sums of M' are started, the others are M's -/
def eSt2 (m k c t : Nat) (M M' : rM) : Prop := (∀ b, b < k → rg M' 1317 0 b = 0) ∧ (∀ b, k ≤ b → rg M' 1317 0 b = rg M 1317 0 b) ∧ (∀ b s, b < k → 1 ≤ b → s < 5 → rg M' 1316 0 (5 * b + s) = eSs (eVu M c t b) b s) ∧ (∀ s, s < 5 → 0 < k → rg M' 1316 0 s = 0) ∧ (∀ b s, k ≤ b → b < 10 → s < 5 → rg M' 1316 0 (5 * b + s) = rg M 1316 0 (5 * b + s)) ∧ ∀ s, s < 5 → rg M' 1316 0 (50 + s) = if 0 < k then eSs (eVu M c t 0) 0 s else 0
theorem epoch78_e {m t c : Nat} {MC : cM} {MR : rM} (hm : m ≤ 10) (ht : t ≤ 9000) (hc : c ≤ 8) (h0 : rg MR 12 0 0 = nI m) (h42 : rg MR 12 0 42 = nI c) (h50 : ∀ s, s < 5 → rg MR 1316 0 (50 + s) = 0) : ∃ MR', m12_beginEpoch_78 zfu (nI t) 0 MR = some MR' ∧ eH [1316, 1317] MR MR' ∧ eSt2 m m c t MR MR' := by
  have hz24 : zrem (nI t) 24 = nI (t % 24) := zrem_nI (by omega) (by decide) (by decide)
  have hmod := Nat.mod_lt t (show 24 > 0 by decide)
  have n10 : ((1 : Int32) = 0) = False := eq_false (by decide)
  refine eloop (σ := rM) (fun f k M => ∃ MR', m12_beginEpoch_78 f (nI t) (nI k) M = some MR' ∧ eH [1316, 1317] MR MR' ∧ eSt2 m m c t MR MR') (fun k M => eH [1316, 1317] MR M ∧ eSt2 m k c t MR M) (m := m) (k0 := 0) (by omega) ?_ ?_ (zfu_gt (by omega)) ⟨eH_refl, fun b hb => absurd hb (by omega), fun _ _ => rfl, fun b s hb => absurd hb (by omega), fun s _ h => absurd h (by omega), fun _ _ _ _ _ => rfl, fun s hs => by rw [if_neg (by omega)]; exact h50 s hs⟩
  · rintro f M ⟨i1, i2⟩
    refine ⟨M, ?_, i1, i2⟩
    rw [m12_beginEpoch_78, i1 12 0 0 rfl, h0, if_pos (by rw [eI_le (by omega) (by omega)]; omega)]
  · rintro f k M hk0 hk ⟨i1, i2, i3, i4, i5, i6, i7⟩ ih
    have e12 : rg M 12 0 0 = nI m := by rw [i1 12 0 0 rfl, h0]
    have e24 : (24 : Int32) * nI k + nI (t % 24) = nI (24 * k + t % 24) := by rw [show (24 : Int32) = nI 24 from rfl, eI_mul, eI_add]
    obtain ⟨M1, b1, b2, b3⟩ := empty_e (x := k) (MR := M) (by omega)
    obtain ⟨M2, hM2⟩ : ∃ X, X = rs M1 1317 0 k 0 := ⟨_, rfl⟩
    have f2 : eH [1317] M1 M2 := by rw [hM2]; exact eH_rs eH_refl rfl
    have f02 : eH [1316, 1317] MR M2 := eH_trans i1 (eH_trans (eH_mono b2 rfl) (eH_mono f2 rfl))
    have s17 : rg M2 1317 0 k = 0 := by rw [hM2, rg_rs, if_pos ⟨rfl, rfl, rfl⟩]
    have s17o : ∀ b, b ≠ k → rg M2 1317 0 b = rg M 1317 0 b := fun b hb => by rw [hM2, rg_rs, if_neg (fun h => hb h.2.2), b2 1317 0 b rfl]
    have s16 : ∀ j, rg M2 1316 0 j = if 5 * k ≤ j ∧ j < 5 * k + 5 then 0 else rg M 1316 0 j := fun j => by rw [f2 1316 0 j rfl, b3 j]
    have hst : eSt2 m k c t MR M := ⟨i2, i3, i4, i5, i6, i7⟩
    -- the box ends with sum o
    have fin : ∀ (N : rM), eH [1316] M2 N → (∀ j, j < 55 → ¬ (5 * (if k = 0 then 10 else k) ≤ j ∧ j < 5 * (if k = 0 then 10 else k) + 5) → rg N 1316 0 j = rg M2 1316 0 j) → (∀ s, s < 5 → rg N 1316 0 (5 * (if k = 0 then 10 else k) + s) = eSs (eVu MR c t k) k s) → ∃ MR', m12_beginEpoch_184 (m12_beginEpoch_78 f) (nI t) (nI k) N = some MR' ∧ eH [1316, 1317] MR MR' ∧ eSt2 m m c t MR MR' := by
      intro N fN hNo hNs
      unfold m12_beginEpoch_184
      rw [ep1]
      refine ih N ⟨eH_trans f02 (eH_mono fN rfl), fun b hb => ?_, fun b hb => ?_, fun b s hb hb1 hs => ?_, fun s hs _ => ?_, fun b s hb hb10 hs => ?_, fun s hs => ?_⟩
      · rw [fN 1317 0 b rfl]
        by_cases hbk : b = k
        · rw [hbk]; exact s17
        · rw [s17o b hbk]; exact i2 b (by omega)
      · rw [fN 1317 0 b rfl, s17o b (by omega)]; exact i3 b (by omega)
      · by_cases hbk : b = k
        · subst hbk
          have := hNs s hs
          rw [if_neg (by omega)] at this
          exact this
        · rw [hNo _ (by omega) (by split <;> omega), s16, if_neg (by omega)]
          exact i4 b s (by omega) hb1 hs
      · rw [hNo s (by omega) (by split <;> omega), s16]
        by_cases hk : k = 0
        · rw [if_pos (by omega)]
        · rw [if_neg (by omega)]; exact i5 s hs (by omega)
      · rw [hNo _ (by omega) (by split <;> omega), s16, if_neg (by omega)]
        exact i6 b s (by omega) hb10 hs
      · rw [if_pos (by omega)]
        by_cases hk0 : k = 0
        · have := hNs s hs
          rw [if_pos hk0] at this
          subst hk0
          exact this
        · rw [hNo _ (by omega) (by rw [if_neg hk0]; omega), s16, if_neg (by omega), i7 s hs, if_pos (by omega)]
    have finN : eVu MR c t k = none → ∃ MR', m12_beginEpoch_184 (m12_beginEpoch_78 f) (nI t) (nI k) M2 = some MR' ∧ eH [1316, 1317] MR MR' ∧ eSt2 m m c t MR MR' := by
      intro hv
      refine fin M2 eH_refl (fun _ _ _ => rfl) (fun s hs => ?_)
      rw [hv, eSs_none, s16]
      by_cases hk0 : k = 0
      · subst hk0
        rw [if_pos rfl, if_neg (by omega), i7 s hs, if_neg (by omega)]
      · rw [if_neg hk0, if_pos (by omega)]
    rw [m12_beginEpoch_78]
    simp only [e12, eI_le (show m < 2 ^ 31 by omega) (show k < 2 ^ 31 by omega), show (m ≤ k) = False from eq_false (by omega), b1, ezin_nI (show k < 10 by omega) (show 10 < 2 ^ 31 by decide), ex_nI (show k < 2 ^ 31 by omega), show znz 24 = true from rfl, hz24, e24, ezin_nI (show 24 * k + t % 24 < 240 by omega) (show 240 < 2 ^ 31 by decide), ex_nI (show 24 * k + t % 24 < 2 ^ 31 by omega), nar0, zbd_s, zbv_s, zgd_t, Bool.and_true, Bool.true_and, Bool.and_self, if_true, if_false, e_01, eq_self, Bool.false_eq_true]
    rw [← hM2]
    have u22 : rg M2 1322 0 k = rg MR 1322 0 k := f02 1322 0 k rfl
    have u44 : rg M2 1344 0 (24 * k + t % 24) = rg MR 1344 0 (24 * k + t % 24) := f02 1344 0 _ rfl
    have u45 : rg M2 1345 0 k = rg MR 1345 0 k := f02 1345 0 k rfl
    rw [u22, u44]
    by_cases hu : rg MR 1322 0 k = 0
    · rw [if_pos hu]
      exact finN (by unfold eVu; rw [if_pos hu])
    · rw [if_neg hu]
      by_cases hl : 16 ≤ rg MR 1344 0 (24 * k + t % 24)
      · rw [if_pos hl]
        exact finN (by unfold eVu eVlu; rw [if_neg hu, if_pos hl])
      · rw [if_neg hl, meets_e hc (by rw [f02 12 0 42 rfl, h42]), zbd_s]
        have hma : ∀ l b c, eMa M2 l b c = eMa MR l b c := by
          intro l b c
          induction c with
          | zero => rfl
          | succ c ih =>
            unfold eMa
            rw [ih]
            unfold eMc
            rw [f02 1343 0 _ rfl, f02 1343 0 _ rfl, f02 1343 0 _ rfl]
        rw [hma]
        rcases Bool.eq_false_or_eq_true (eMa MR (rg MR 1344 0 (24 * k + t % 24)) (nI k) c) with h1 | h1
        · simp only [h1, n10, u45, zbd_s, zbv_s, zgd_t, Bool.and_true, Bool.true_and, Bool.and_self, if_true, if_false, e_01, eq_self, Bool.false_eq_true]
          have h158 : ∀ v, eVu MR c t k = some v → ∃ MR', m12_beginEpoch_158 (m12_beginEpoch_78 f) (nI t) (nI k) v M2 = some MR' ∧ eH [1316, 1317] MR MR' ∧ eSt2 m m c t MR MR' := by
            intro v hv
            unfold m12_beginEpoch_158 m12_beginEpoch_171
            by_cases hk0 : k = 0
            · subst hk0
              obtain ⟨N, n1, n2, n3, n4⟩ := join0_e (x := 10) (b := 0) (by omega) v M2 (fun s hs => by rw [s16, if_neg (by omega), i7 s hs, if_neg (by omega)])
              rw [if_pos (show nI 0 = (0 : Int32) from rfl), show (10 : Int32) = nI 10 from rfl, n1, zbv_s]
              refine fin N n2 (fun j hj hn => n3 j (by rw [if_pos rfl] at hn; omega)) (fun s hs => ?_)
              rw [if_pos rfl, hv]; exact n4 s hs
            · obtain ⟨N, n1, n2, n3, n4⟩ := join0_e (x := k) (b := k) (by omega) v M2 (fun s hs => by rw [s16, if_pos (by omega)])
              rw [if_neg (fun h => by rw [show (0 : Int32) = nI 0 from rfl, eI_inj (by omega) (by omega)] at h; omega), n1, zbv_s]
              refine fin N n2 (fun j hj hn => n3 j (by rw [if_neg hk0] at hn; omega)) (fun s hs => ?_)
              rw [if_neg hk0, hv]; exact n4 s hs
          have hvu : eVu MR c t k = some (if rg MR 1345 0 k = 16 then rg MR 1344 0 (24 * k + t % 24) else rg MR 1345 0 k) := by
            unfold eVu eVlu
            rw [if_neg hu, if_neg hl, if_pos h1]
          by_cases h2 : rg MR 1345 0 k = 16
          · rw [if_pos h2] at hvu
            rw [if_pos h2]
            exact h158 _ hvu
          · rw [if_neg h2] at hvu
            rw [if_neg h2]
            exact h158 _ hvu
        · simp only [h1, zbd_s, zbv_s, zgd_t, Bool.and_true, Bool.true_and, Bool.and_self, if_true, if_false, e_01, eq_self, Bool.false_eq_true]
          exact finN (by unfold eVu eVlu; rw [if_neg hu, if_neg hl, if_neg (by rw [h1]; decide)])
