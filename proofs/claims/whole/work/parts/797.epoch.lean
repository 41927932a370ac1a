theorem eVu_fr {c t b : Nat} {M M' : rM} {K : List Nat} (h : eH K M M') (d : eDj K [1322, 1343, 1344, 1345] = true) : eVu M' c t b = eVu M c t b := by
  have hma : ∀ l x c, eMa M' l x c = eMa M l x c := by
    intro l x c
    induction c with
    | zero => rfl
    | succ c ih =>
      unfold eMa
      rw [ih]
      unfold eMc
      simp only [fun j => eH_at h d 1343 0 j rfl]
  unfold eVu eVlu
  simp only [hma, fun j => eH_at h d 1322 0 j rfl, fun j => eH_at h d 1344 0 j rfl, fun j => eH_at h d 1345 0 j rfl]
theorem epoch_e {m t c : Nat} {MC : cM} {MR : rM} {Q : Nat → Nat} (hm : m ≤ 10) (ht : t ≤ 9000) (hc : c ≤ 8) (h0 : rg MR 12 0 0 = nI m) (h42 : rg MR 12 0 42 = nI c) (hQ : ∀ b, b < m → Q b ≤ 4 ∧ rg MR 1314 0 b = nI (Q b) ∧ ∀ k, k < Q b → rg MR 1315 0 (24 * b + 6 * k) = 0 → rg MR 1315 0 (24 * b + 6 * k + 1) ≠ -1) (hu0 : eUn MR 0 = 0) : ∃ MR', m12_beginEpoch (nI t) MR = some MR' ∧ eH [1314, 1315, 1316, 1317, 1319, 11218] MR MR' ∧ (∀ b, b < m → eWo b (Q b) MR MR') ∧ (∀ b, m ≤ b → rg MR' 1314 0 b = rg MR 1314 0 b) ∧ rg MR' 12 0 18 = nI t ∧ rg MR' 1319 0 5 = rg MR 1319 0 5 + nI (eSig m (fun b => Q b - (eCmp (eRw MR b) (Q b)).length) + eSig m (eUn MR)) ∧ (∀ j, j ≠ 5 → rg MR' 1319 0 j = rg MR 1319 0 j) ∧ eSt2 m m c t MR MR' := by
  obtain ⟨M1, a1, a2, a3, a4⟩ := takes_e (MR := MR) (Q := Q) hm h0 hQ
  obtain ⟨S1, hS1⟩ : ∃ x, x = eSig m (fun b => Q b - (eCmp (eRw MR b) (Q b)).length) := ⟨_, rfl⟩
  rw [← hS1] at a1 ⊢
  unfold m12_beginEpoch
  have e5 : nx (5 : Int32) = 5 := rfl
  have z5 : zin (5 : Int32) 8 = true := by decide
  simp only [z5, e5, a1, zbd_s, zbv_s, zgd_t, Bool.and_true, Bool.true_and, Bool.and_self, if_true, if_false, e_01, eq_self, Bool.false_eq_true]
  obtain ⟨M2, hM2⟩ : ∃ X, X = rs M1 1319 0 5 (rg MR 1319 0 5 + nI S1) := ⟨_, rfl⟩
  rw [← hM2]
  have f2 : eH [1319] M1 M2 := by rw [hM2]; exact eH_rs eH_refl rfl
  refine eloop (σ := rM) (fun f k M => ∃ MR', m12_beginEpoch_15 f (nI t) (nI k) M = some MR' ∧ eH [1314, 1315, 1316, 1317, 1319, 11218] MR MR' ∧ (∀ b, b < m → eWo b (Q b) MR MR') ∧ (∀ b, m ≤ b → rg MR' 1314 0 b = rg MR 1314 0 b) ∧ rg MR' 12 0 18 = nI t ∧ rg MR' 1319 0 5 = rg MR 1319 0 5 + nI (S1 + eSig m (eUn MR)) ∧ (∀ j, j ≠ 5 → rg MR' 1319 0 j = rg MR 1319 0 j) ∧ eSt2 m m c t MR MR') (fun k M => eH [1319] M1 M ∧ rg M 1319 0 5 = rg MR 1319 0 5 + nI (S1 + eSig k (eUn MR)) ∧ ∀ j, j ≠ 5 → rg M 1319 0 j = rg MR 1319 0 j) (m := max m 1) (k0 := 1) (by omega) ?_ ?_ (zfu_gt (by omega)) ⟨f2, ?_, ?_⟩
  · rintro f M ⟨i1, i2, i3⟩
    have e12 : rg M 12 0 0 = nI m := by rw [i1 12 0 0 rfl, a2 12 0 0 rfl, h0]
    have hS : eSig (max m 1) (eUn MR) = eSig m (eUn MR) := by
      by_cases hm0 : m = 0
      · subst hm0
        show eSig 1 (eUn MR) = 0
        rw [eSig_s, hu0]; rfl
      · rw [show max m 1 = m by omega]
    rw [hS] at i2
    obtain ⟨M3, hM3⟩ : ∃ X, X = rs M 12 0 18 (nI t) := ⟨_, rfl⟩
    have f3 : eH [11218] M M3 := by rw [hM3]; exact eH_rs eH_refl rfl
    obtain ⟨M4, b1, b2, b3⟩ := empty_e (x := 10) (MR := M3) (by omega)
    have f04 : eH [1314, 1315, 1316, 1319, 11218] MR M4 := eH_trans (eH_mono a2 rfl) (eH_trans (eH_mono i1 rfl) (eH_trans (eH_mono f3 rfl) (eH_mono b2 rfl)))
    obtain ⟨M5, c1, c2, c3, c4, c5, c6, c7, c8⟩ := epoch78_e (c := c) (MC := MC) (MR := M4) hm ht hc (by rw [f04 12 0 0 rfl, h0]) (by rw [f04 12 0 42 rfl, h42]) (fun s hs => by rw [b3, if_pos (by omega)])
    have s16 : ∀ b s, b < 10 → s < 5 → rg M4 1316 0 (5 * b + s) = rg MR 1316 0 (5 * b + s) := by
      intro b s hb hs
      rw [b3, if_neg (by omega), f3 1316 0 _ rfl, i1 1316 0 _ rfl, a2 1316 0 _ rfl]
    have s17 : ∀ b, rg M4 1317 0 b = rg MR 1317 0 b := fun b => f04 1317 0 b rfl
    have sv : ∀ b, eVu M4 c t b = eVu MR c t b := fun b => eVu_fr f04 rfl
    have f45 : eH [1316, 1317, 11218] M M5 := eH_trans (eH_mono f3 rfl) (eH_trans (eH_mono b2 rfl) (eH_mono c2 rfl))
    refine ⟨M5, ?_, eH_trans (eH_mono f04 rfl) (eH_mono c2 rfl), fun b hb => ?_, fun b hb => ?_, ?_, ?_, fun j hj => ?_, ⟨c3, fun b hb => by rw [c4 b hb, s17], fun b s h1 h2 h3 => by rw [c5 b s h1 h2 h3, sv], c6, fun b s h1 h2 h3 => by rw [c7 b s h1 h2 h3, s16 b s h2 h3], fun s hs => by rw [c8 s hs, sv]⟩⟩
    · rw [m12_beginEpoch_15, e12, if_pos (by rw [eI_le (by omega) (by omega)]; omega), ← hM3, show (10 : Int32) = nI 10 from rfl, b1, zbv_s]
      exact c1
    · obtain ⟨w1, w2⟩ := a3 b hb
      unfold eWo
      rw [f45 1314 0 b rfl, i1 1314 0 b rfl]
      refine ⟨w1, fun i hi => ?_⟩
      rw [f45 1315 0 _ rfl, f45 1315 0 _ rfl, i1 1315 0 _ rfl, i1 1315 0 _ rfl]
      exact w2 i hi
    · rw [f45 1314 0 b rfl, i1 1314 0 b rfl]; exact (a4 b hb).1
    · rw [c2 12 0 18 rfl, b2 12 0 18 rfl, hM3]; rfl
    · rw [f45 1319 0 5 rfl, i2]
    · rw [f45 1319 0 j rfl, i3 j hj]
  · rintro f k M hk0 hk ⟨i1, i2, i3⟩ ih
    have hkm : k < m := by omega
    have e12 : rg M 12 0 0 = nI m := by rw [i1 12 0 0 rfl, a2 12 0 0 rfl, h0]
    have e52 : (5 : Int32) * nI k + 2 = nI (5 * k + 2) := by rw [show (5 : Int32) = nI 5 from rfl, show (2 : Int32) = nI 2 from rfl, eI_mul, eI_add]
    have u16 : rg M 1316 0 (5 * k + 2) = rg MR 1316 0 (5 * k + 2) := by rw [i1 1316 0 _ rfl, a2 1316 0 _ rfl]
    have u17 : rg M 1317 0 k = rg MR 1317 0 k := by rw [i1 1317 0 _ rfl, a2 1317 0 _ rfl]
    have fin : ∀ u, u = eUn MR k → ∃ MR', m12_beginEpoch_57 (m12_beginEpoch_15 f) (nI t) (nI k) 5 (rg M 1319 0 5) (nI u) M = some MR' ∧ eH [1314, 1315, 1316, 1317, 1319, 11218] MR MR' ∧ (∀ b, b < m → eWo b (Q b) MR MR') ∧ (∀ b, m ≤ b → rg MR' 1314 0 b = rg MR 1314 0 b) ∧ rg MR' 12 0 18 = nI t ∧ rg MR' 1319 0 5 = rg MR 1319 0 5 + nI (S1 + eSig m (eUn MR)) ∧ (∀ j, j ≠ 5 → rg MR' 1319 0 j = rg MR 1319 0 j) ∧ eSt2 m m c t MR MR' := by
      intro u hu
      unfold m12_beginEpoch_57
      rw [z5, Bool.and_true, zgd_t, ep1, e5]
      refine ih _ ⟨eH_rs i1 rfl, ?_, fun j hj => ?_⟩
      · rw [rg_rs, if_pos ⟨rfl, rfl, rfl⟩, i2, Int32.add_assoc, eI_add, eSig_s, hu, Nat.add_assoc]
      · rw [rg_rs, if_neg (fun h => hj h.2.2), i3 j hj]
    rw [m12_beginEpoch_15]
    simp only [e12, eI_le (show m < 2 ^ 31 by omega) (show k < 2 ^ 31 by omega), show (m ≤ k) = False from eq_false (by omega), z5, e5, e52, ezin_nI (show 5 * k + 2 < 55 by omega) (show 55 < 2 ^ 31 by decide), ex_nI (show 5 * k + 2 < 2 ^ 31 by omega), ezin_nI (show k < 10 by omega) (show 10 < 2 ^ 31 by decide), ex_nI (show k < 2 ^ 31 by omega), u16, u17, zbd_s, zbv_s, zgd_t, Bool.and_true, Bool.true_and, Bool.and_self, if_true, if_false, e_01, eq_self, Bool.false_eq_true]
    by_cases h1 : rg MR 1316 0 (5 * k + 2) ≤ 0
    · rw [if_pos h1]
      exact fin 0 (by unfold eUn; rw [if_pos h1])
    · rw [if_neg h1]
      by_cases h2 : rg MR 1317 0 k = 0
      · rw [if_pos h2]
        exact fin 1 (by unfold eUn; rw [if_neg h1, if_pos h2])
      · rw [if_neg h2]
        exact fin 0 (by unfold eUn; rw [if_neg h1, if_neg h2])
  · rw [hM2, rg_rs, if_pos ⟨rfl, rfl, rfl⟩, eSig_s, hu0]; rfl
  · intro j hj
    rw [hM2, rg_rs, if_neg (fun h => hj h.2.2), a2 1319 0 j rfl]
