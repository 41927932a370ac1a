/-! a row without its sums, the reference -/
/-- what stands at place k of row b: a word, or -1 for a sum -/
def eRw (M : rM) (b k : Nat) : Int32 := if rg M 1315 0 (24 * b + 6 * k) = 0 then rg M 1315 0 (24 * b + 6 * k + 1) else -1
/-- row b of M' is row b of M without its sums -/
def eWo (b q : Nat) (M M' : rM) : Prop := rg M' 1314 0 b = nI (eCmp (eRw M b) q).length ∧ ∀ i : Nat, i < (eCmp (eRw M b) q).length → rg M' 1315 0 (24 * b + 6 * i) = 0 ∧ (eCmp (eRw M b) q)[i]? = some (rg M' 1315 0 (24 * b + 6 * i + 1))
theorem take17 {k4 : Int32 → Int32 → rM → Option (Int32 × rM)} {P : Option (Int32 × rM) → Prop} {b q r : Nat} {MR : rM} (hb : b < 10) (hq : q ≤ 4) (h1 : rg MR 1314 0 b = nI q) (hw : ∀ k, k < q → rg MR 1315 0 (24 * b + 6 * k) = 0 → rg MR 1315 0 (24 * b + 6 * k + 1) ≠ -1) (hk : ∀ M', eH [1314, 1315] MR M' → (∀ c, c ≠ b → rg M' 1314 0 c = rg MR 1314 0 c) → (∀ c s, c ≠ b → s < 24 → rg M' 1315 0 (24 * c + s) = rg MR 1315 0 (24 * c + s)) → eWo b q MR M' → P (k4 (nI (r + (q - (eCmp (eRw MR b) q).length))) (nI (b + 1)) M')) : P (m12_takeSums_17 k4 zfu (nI r) (nI b) 0 0 MR) := by
  refine eloop (σ := rM) (fun f k M => P (m12_takeSums_17 k4 f (nI (r + (k - (eCmp (eRw MR b) k).length))) (nI b) (nI (eCmp (eRw MR b) k).length) (nI k) M)) (fun k M => eH [1315] MR M ∧ (∀ c s, c ≠ b → s < 24 → rg M 1315 0 (24 * c + s) = rg MR 1315 0 (24 * c + s)) ∧ (∀ s, 6 * k ≤ s → s < 24 → rg M 1315 0 (24 * b + s) = rg MR 1315 0 (24 * b + s)) ∧ ∀ i : Nat, i < (eCmp (eRw MR b) k).length → rg M 1315 0 (24 * b + 6 * i) = 0 ∧ (eCmp (eRw MR b) k)[i]? = some (rg M 1315 0 (24 * b + 6 * i + 1))) (m := q) (k0 := 0) (by omega) ?_ ?_ (zfu_gt (by omega)) ⟨eH_refl, fun _ _ _ _ => rfl, fun _ _ _ => rfl, fun i hi => absurd hi (Nat.not_lt_zero i)⟩
  · rintro f M ⟨i1, i2, i3, i4⟩
    have e1 : rg M 1314 0 b = nI q := by rw [i1 1314 0 b rfl, h1]
    have hl := eCmp_len (eRw MR b) q
    rw [m12_takeSums_17]
    simp only [ezin_nI (show b < 10 by omega) (show 10 < 2 ^ 31 by decide), ex_nI (show b < 2 ^ 31 by omega), e1, eI_le (show q < 2 ^ 31 by omega) (show q < 2 ^ 31 by omega), show (q ≤ q) = True from eq_true (by omega), ep1, zbd_s, zbv_s, zgd_t, Bool.and_true, Bool.true_and, Bool.and_self, if_true, if_false, e_01, eq_self, Bool.false_eq_true]
    refine hk _ (eH_rs (eH_mono i1 rfl) rfl) (fun c hc => ?_) (fun c s hc hs => ?_) ⟨?_, fun i hi => ?_⟩
    · rw [rg_rs, if_neg (fun h => hc h.2.2)]; exact i1 1314 0 c rfl
    · rw [rg_rs, if_neg (by omega)]; exact i2 c s hc hs
    · rw [rg_rs, if_pos ⟨rfl, rfl, rfl⟩]
    · rw [rg_rs, if_neg (by omega), rg_rs, if_neg (by omega)]; exact i4 i hi
  · rintro f k M hk0 hkq ⟨i1, i2, i3, i4⟩ ih
    have e1 : rg M 1314 0 b = nI q := by rw [i1 1314 0 b rfl, h1]
    have hl := eCmp_len (eRw MR b) k
    obtain ⟨l, hll⟩ : ∃ l, l = (eCmp (eRw MR b) k).length := ⟨_, rfl⟩
    rw [← hll] at hl i4 ⊢
    have a0 : rg M 1315 0 (24 * b + 6 * k) = rg MR 1315 0 (24 * b + 6 * k) := i3 (6 * k) (by omega) (by omega)
    have a1 : rg M 1315 0 (24 * b + 6 * k + 1) = rg MR 1315 0 (24 * b + 6 * k + 1) := i3 (6 * k + 1) (by omega) (by omega)
    have x1 : (24 : Int32) * nI b + 6 * nI k = nI (24 * b + 6 * k) := by rw [show (24 : Int32) = nI 24 from rfl, show (6 : Int32) = nI 6 from rfl, eI_mul, eI_mul, eI_add]
    have x2 : (24 : Int32) * nI b + 6 * nI l = nI (24 * b + 6 * l) := by rw [show (24 : Int32) = nI 24 from rfl, show (6 : Int32) = nI 6 from rfl, eI_mul, eI_mul, eI_add]
    rw [m12_takeSums_17]
    simp only [ezin_nI (show b < 10 by omega) (show 10 < 2 ^ 31 by decide), ex_nI (show b < 2 ^ 31 by omega), e1, eI_le (show q < 2 ^ 31 by omega) (show k < 2 ^ 31 by omega), show (q ≤ k) = False from eq_false (by omega), x1, x2, ep1, ezin_nI (show 24 * b + 6 * k < 240 by omega) (show 240 < 2 ^ 31 by decide), ex_nI (show 24 * b + 6 * k < 2 ^ 31 by omega), ezin_nI (show 24 * b + 6 * l < 240 by omega) (show 240 < 2 ^ 31 by decide), ex_nI (show 24 * b + 6 * l < 2 ^ 31 by omega), ezin_nI (show 24 * b + 6 * k + 1 < 240 by omega) (show 240 < 2 ^ 31 by decide), ex_nI (show 24 * b + 6 * k + 1 < 2 ^ 31 by omega), ezin_nI (show 24 * b + 6 * l + 1 < 240 by omega) (show 240 < 2 ^ 31 by decide), ex_nI (show 24 * b + 6 * l + 1 < 2 ^ 31 by omega), zbd_s, zbv_s, zgd_t, Bool.and_true, Bool.true_and, Bool.and_self, if_true, if_false, e_01, eq_self, Bool.false_eq_true]
    rw [a0]
    by_cases hz : rg MR 1315 0 (24 * b + 6 * k) = 0
    · rw [if_pos hz]
      have hv : eRw MR b k = rg MR 1315 0 (24 * b + 6 * k + 1) := by unfold eRw; rw [if_pos hz]
      have hne : eRw MR b k ≠ -1 := by rw [hv]; exact hw k hkq hz
      have hcs : eCmp (eRw MR b) (k + 1) = eCmp (eRw MR b) k ++ [rg MR 1315 0 (24 * b + 6 * k + 1)] := by rw [eCmp_s, if_neg hne, hv]
      have hcl : (eCmp (eRw MR b) (k + 1)).length = l + 1 := by rw [hcs, List.length_append, ← hll]; rfl
      have hval : rg (rs M 1315 0 (24 * b + 6 * l) 0) 1315 0 (24 * b + 6 * k + 1) = rg MR 1315 0 (24 * b + 6 * k + 1) := by rw [rg_rs, if_neg (by omega), a1]
      rw [hval]
      obtain ⟨N, hN⟩ : ∃ N, N = rs (rs M 1315 0 (24 * b + 6 * l) 0) 1315 0 (24 * b + 6 * l + 1) (rg MR 1315 0 (24 * b + 6 * k + 1)) := ⟨_, rfl⟩
      rw [← hN]
      have hN1 : ∀ j, j ≠ 24 * b + 6 * l → j ≠ 24 * b + 6 * l + 1 → rg N 1315 0 j = rg M 1315 0 j := fun j h1 h2 => by rw [hN, rg_rs, if_neg (fun h => h2 h.2.2), rg_rs, if_neg (fun h => h1 h.2.2)]
      unfold m12_takeSums_94 m12_takeSums_103
      rw [ep1, ep1]
      have := ih N ⟨by rw [hN]; exact eH_rs (eH_rs i1 rfl) rfl, fun c s hc hs => by rw [hN1 _ (by omega) (by omega)]; exact i2 c s hc hs, fun s h1 h2 => by rw [hN1 _ (by omega) (by omega)]; exact i3 s (by omega) h2, fun i hi => ?_⟩
      · rw [hcl, show k + 1 - (l + 1) = k - l by omega] at this
        exact this
      · rw [hcl] at hi
        rw [hcs]
        by_cases hil : i = l
        · subst hil
          refine ⟨by rw [hN, rg_rs, if_neg (by omega), rg_rs, if_pos ⟨rfl, rfl, rfl⟩], ?_⟩
          rw [List.getElem?_append_right (by omega), ← hll, Nat.sub_self, hN, rg_rs, if_pos ⟨rfl, rfl, rfl⟩]; rfl
        · obtain ⟨b1, b2⟩ := i4 i (by omega)
          rw [hN1 _ (by omega) (by omega), hN1 _ (by omega) (by omega), List.getElem?_append_left (by omega)]
          exact ⟨b1, b2⟩
    · rw [if_neg hz]
      have hv : eRw MR b k = -1 := by unfold eRw; rw [if_neg hz]
      have hcs : eCmp (eRw MR b) (k + 1) = eCmp (eRw MR b) k := by rw [eCmp_s, if_pos hv]
      unfold m12_takeSums_103
      rw [ep1]
      have := ih M ⟨i1, i2, fun s h1 h2 => i3 s (by omega) h2, by rw [hcs, ← hll]; exact i4⟩
      rw [hcs, ← hll, show r + (k + 1 - l) = r + (k - l) + 1 by omega] at this
      exact this
/-- rows without sums, from row to row -/
theorem takes_e {m : Nat} {MR : rM} (hm : m ≤ 10) (h0 : rg MR 12 0 0 = nI m) {Q : Nat → Nat} (hQ : ∀ b, b < m → Q b ≤ 4 ∧ rg MR 1314 0 b = nI (Q b) ∧ ∀ k, k < Q b → rg MR 1315 0 (24 * b + 6 * k) = 0 → rg MR 1315 0 (24 * b + 6 * k + 1) ≠ -1) : ∃ MR', m12_takeSums MR = some (nI (eSig m (fun b => Q b - (eCmp (eRw MR b) (Q b)).length)), MR') ∧ eH [1314, 1315] MR MR' ∧ (∀ b, b < m → eWo b (Q b) MR MR') ∧ ∀ b, m ≤ b → rg MR' 1314 0 b = rg MR 1314 0 b ∧ ∀ s, s < 24 → rg MR' 1315 0 (24 * b + s) = rg MR 1315 0 (24 * b + s) := by
  unfold m12_takeSums
  refine eloop (σ := rM) (fun f k M => ∃ MR', m12_takeSums_4 f (nI (eSig k (fun b => Q b - (eCmp (eRw MR b) (Q b)).length))) (nI k) M = some (nI (eSig m (fun b => Q b - (eCmp (eRw MR b) (Q b)).length)), MR') ∧ eH [1314, 1315] MR MR' ∧ (∀ b, b < m → eWo b (Q b) MR MR') ∧ ∀ b, m ≤ b → rg MR' 1314 0 b = rg MR 1314 0 b ∧ ∀ s, s < 24 → rg MR' 1315 0 (24 * b + s) = rg MR 1315 0 (24 * b + s)) (fun k M => eH [1314, 1315] MR M ∧ (∀ b, b < k → eWo b (Q b) MR M) ∧ ∀ b, k ≤ b → rg M 1314 0 b = rg MR 1314 0 b ∧ ∀ s, s < 24 → rg M 1315 0 (24 * b + s) = rg MR 1315 0 (24 * b + s)) (m := m) (k0 := 0) (by omega) ?_ ?_ (zfu_gt (by omega)) ⟨eH_refl, fun b hb => absurd hb (by omega), fun b _ => ⟨rfl, fun _ _ => rfl⟩⟩
  · rintro f M ⟨i1, i2, i3⟩
    have e0 : rg M 12 0 0 = nI m := by rw [i1 12 0 0 rfl, h0]
    refine ⟨M, ?_, i1, i2, i3⟩
    rw [m12_takeSums_4, e0, if_pos (by rw [eI_le (by omega) (by omega)]; omega)]
  · rintro f k M hk0 hk ⟨i1, i2, i3⟩ ih
    have e0 : rg M 12 0 0 = nI m := by rw [i1 12 0 0 rfl, h0]
    obtain ⟨q1, q2, q3⟩ := hQ k hk
    obtain ⟨z1, z2⟩ := i3 k (Nat.le_refl k)
    rw [m12_takeSums_4, e0, if_neg (by rw [eI_le (by omega) (by omega)]; omega)]
    have zz : ∀ j, j < 4 → rg M 1315 0 (24 * k + 6 * j) = rg MR 1315 0 (24 * k + 6 * j) ∧ rg M 1315 0 (24 * k + 6 * j + 1) = rg MR 1315 0 (24 * k + 6 * j + 1) := fun j hj => ⟨z2 (6 * j) (by omega), z2 (6 * j + 1) (by omega)⟩
    have hc : eCmp (eRw M k) (Q k) = eCmp (eRw MR k) (Q k) := eCmp_congr (fun j hj => by
      unfold eRw
      rw [(zz j (by omega)).1, (zz j (by omega)).2])
    refine take17 (P := fun o => ∃ MR', o = some (nI (eSig m (fun b => Q b - (eCmp (eRw MR b) (Q b)).length)), MR') ∧ eH [1314, 1315] MR MR' ∧ (∀ b, b < m → eWo b (Q b) MR MR') ∧ ∀ b, m ≤ b → rg MR' 1314 0 b = rg MR 1314 0 b ∧ ∀ s, s < 24 → rg MR' 1315 0 (24 * b + s) = rg MR 1315 0 (24 * b + s)) (q := Q k) (by omega) q1 (by rw [z1, q2]) (fun j hj hj0 => ?_) ?_
    · rw [(zz j (by omega)).1] at hj0
      rw [(zz j (by omega)).2]
      exact q3 j hj hj0
    · intro M' f1 f2 f3 f4
      rw [hc]
      refine ih M' ⟨eH_trans i1 f1, fun b hb => ?_, fun b hb => ⟨?_, fun s hs => ?_⟩⟩
      · by_cases hbk : b = k
        · subst hbk
          unfold eWo at *
          rw [hc] at f4
          exact f4
        · obtain ⟨w1, w2⟩ := i2 b (by omega)
          refine ⟨by rw [f2 b hbk]; exact w1, fun i hi => ?_⟩
          have hl := eCmp_len (eRw MR b) (Q b)
          have := (hQ b (by omega)).1
          have g1 := f3 b (6 * i) hbk (by omega)
          have g2 := f3 b (6 * i + 1) hbk (by omega)
          rw [show 24 * b + 6 * i + 1 = 24 * b + (6 * i + 1) by omega, g1, g2]
          exact w2 i hi
      · rw [f2 b (by omega)]; exact (i3 b (by omega)).1
      · rw [f3 b s (by omega) hs]; exact (i3 b (by omega)).2 s hs
