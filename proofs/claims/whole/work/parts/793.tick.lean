/-! a tick: rest -/
theorem set_c {j : Nat} (hj : j < 7) (M : cM) : m3_setting (nI j) M = some (cg M 401 0 j, M) := by
  unfold m3_setting
  rw [if_neg (fun h => by rw [show (0 : Int32) = nI 0 from rfl, eI_lt (by omega) (by omega)] at h; omega), if_neg (fun h => by rw [show (7 : Int32) = nI 7 from rfl, eI_le (by omega) (by omega)] at h; omega), ezin_nI hj (by decide), Bool.and_true, zgd_t, ex_nI (by omega)]
/-- who is alive, who is up -/
def eUp (m : Nat) (MC : cM) (MR : rM) : Prop := ∀ b, b < m → rg MR 1323 0 b = (if eb (cg MC 0 0 7) b then 0 else 1) ∧ rg MR 1322 0 b = (if eb (cg MC 0 0 8) b then 1 else 0)
def tickEnd (x1 : Int32) (M : rM) : Option rM := (if (rg M 12 0 40) ≤ 0 then m12_goTick_116 x1 M else zgd (znz (rg M 12 0 41) && true) ((if (zrem x1 (rg M 12 0 41)) = 0 then zbv (m12_beginEpoch x1 M) (fun M9 => m12_goTick_116 x1 M9) else m12_goTick_116 x1 M)))
theorem g1_at {m : Nat} {MC MC' : cM} {MR MR' : rM} (h : eG1 m MC MR) {K K' : List Nat} (hC : eF K MC MC') (hR : eH K' MR MR') (d : eDj K [10200, 10201, 10202, 10203, 10204, 10205, 10206, 10209, 10210, 10211, 312] = true) (d' : eDj K' [1301, 1302, 1303, 1304, 1305, 1306, 1307, 1344, 1345, 1358] = true) : eG1 m MC' MR' := eG1_fr h hC hR d d'
theorem nar0 : vp_nar .boolean (0 : Int32) = 0 := rfl
theorem nar1 : vp_nar .boolean (1 : Int32) = 1 := rfl
theorem rest_e {m t : Nat} {MC : cM} {MR : rM} (hm : m ≤ 10) (g0 : eG0 m t MC MR) (g1 : eG1 m MC MR) : ∃ MC' MR', m0_spendRest MC = some MC' ∧ m12_goTick (nI t) MR = tickEnd (nI t) MR' ∧ eF [10007, 10008, 10202] MC MC' ∧ MC'.2 = MC.2 ∧ eH [1302, 1322, 1323] MR MR' ∧ eG1 m MC' MR' ∧ eUp m MC' MR' := by
  unfold m0_spendRest m12_goTick
  refine eloop (σ := cM × rM) (fun f k s => ∃ MC' MR', m0_spendRest_12 f (nI k) s.1 = some MC' ∧ m12_goTick_2 f (nI t) (nI k) s.2 = tickEnd (nI t) MR' ∧ eF [10007, 10008, 10202] MC MC' ∧ MC'.2 = MC.2 ∧ eH [1302, 1322, 1323] MR MR' ∧ eG1 m MC' MR' ∧ eUp m MC' MR') (fun k s => eF [10007, 10008, 10202] MC s.1 ∧ s.1.2 = MC.2 ∧ eH [1302, 1322, 1323] MR s.2 ∧ eG1 m s.1 s.2 ∧ eUp k s.1 s.2 ∧ ∀ j, k ≤ j → eb (cg s.1 0 0 7) j = false ∧ eb (cg s.1 0 0 8) j = false) (s := (cs (cs MC 0 0 7 0) 0 0 8 0, MR)) (m := m) (k0 := 0) (by omega) ?_ ?_ (zfu_gt (by omega)) ⟨(by repeat (first | exact eF_refl | refine eF_cs ?_ rfl)), rfl, eH_refl, eG1_fr g1 (K := [10007, 10008]) (K' := []) (by repeat (first | exact eF_refl | refine eF_cs ?_ rfl)) eH_refl rfl rfl, fun b hb => absurd hb (by omega), fun j _ => ⟨eb_0 j, eb_0 j⟩⟩
  · rintro f ⟨M, N⟩ ⟨i1, i2, i3, i4, i5, i6⟩
    refine ⟨M, N, ?_, ?_, i1, i2, i3, i4, i5⟩
    · dsimp only
      rw [m0_spendRest_12, i1 3 0 4 rfl, g0.1, if_pos (by rw [eI_le (by omega) (by omega)]; omega)]
    · dsimp only
      rw [m12_goTick_2, i3 12 0 0 rfl, g0.2.1, if_pos (by rw [eI_le (by omega) (by omega)]; omega)]
      rfl
  · rintro f k ⟨M, N⟩ hk0 hk ⟨i1, i2, i3, i4, i5, i6⟩ ih
    dsimp only at i1 i2 i3 i4 i5 i6 ⊢
    have hk10 : k < 10 := by omega
    have hon : 1 ≤ rg N 1303 0 k := (i4.2.2.1 k hk).2.1
    have e34 : cg M 3 0 4 = nI m := by rw [i1 3 0 4 rfl, g0.1]
    have e35 : cg M 3 0 5 = nI t := by rw [i1 3 0 5 rfl, g0.2.2.1]
    have e12 : rg N 12 0 0 = nI m := by rw [i3 12 0 0 rfl, g0.2.1]
    have pw := (i4.1 k hk10).2.2.1
    rw [m0_spendRest_12, m12_goTick_2]
    simp only [e34, e35, e12, eI_le (show m < 2 ^ 31 by omega) (show k < 2 ^ 31 by omega), show (m ≤ k) = False from eq_false (by omega), of_y hk10, blt_t hk10, dead_c i4 hk10, isOn_e hk10 _ _ hon, ezin_nI (show k < 10 by omega) (show 10 < 2 ^ 31 by decide), ex_nI (show k < 2 ^ 31 by omega), zbd_s, zbv_s, zgd_t, Bool.and_true, Bool.true_and, Bool.and_self, if_true, if_false, e_01, eq_self, Bool.false_eq_true]
    -- what stands behind one box
    have fin : ∀ (M' : cM) (N' : rM) (a u : Bool), eF [10007, 10008, 10202] M M' → M'.2 = M.2 → eH [1302, 1322, 1323] N N' → eG1 m M' N' → (∀ j, eb (cg M' 0 0 7) j = if j = k then a else eb (cg M 0 0 7) j) → (∀ j, eb (cg M' 0 0 8) j = if j = k then u else eb (cg M 0 0 8) j) → rg N' 1323 0 k = (if a then 0 else 1) → rg N' 1322 0 k = (if u then 1 else 0) → (∀ b, b ≠ k → rg N' 1323 0 b = rg N 1323 0 b ∧ rg N' 1322 0 b = rg N 1322 0 b) → ∃ MC' MR', m0_spendRest_12 f (nI (k + 1)) M' = some MC' ∧ m12_goTick_2 f (nI t) (nI (k + 1)) N' = tickEnd (nI t) MR' ∧ eF [10007, 10008, 10202] MC MC' ∧ MC'.2 = MC.2 ∧ eH [1302, 1322, 1323] MR MR' ∧ eG1 m MC' MR' ∧ eUp m MC' MR' := by
      intro M' N' a u f1 f2 f3 f4 h7 h8 n3 n2 nb
      refine ih (M', N') ⟨eF_trans i1 f1, f2.trans i2, eH_trans i3 f3, f4, ?_, ?_⟩
      · intro b hb
        dsimp only
        rw [h7, h8]
        by_cases hbk : b = k
        · subst hbk; rw [if_pos rfl, if_pos rfl]; exact ⟨n3, n2⟩
        · rw [if_neg hbk, if_neg hbk, (nb b hbk).1, (nb b hbk).2]
          exact i5 b (by omega)
      · intro j hj
        dsimp only
        rw [h7, h8, if_neg (by omega), if_neg (by omega)]
        exact i6 j (by omega)
    have o7 : ∀ j, eb (cg M 0 0 7 ||| zshl 1 (nI k)) j = if j = k then true else eb (cg M 0 0 7) j := by
      intro j
      rw [eb_or, eb_shl (by omega)]
      by_cases hj : j = k
      · simp [hj]
      · simp [hj]
    have o8 : ∀ j, eb (cg M 0 0 8 ||| zshl 1 (nI k)) j = if j = k then true else eb (cg M 0 0 8) j := by
      intro j
      rw [eb_or, eb_shl (by omega)]
      by_cases hj : j = k
      · simp [hj]
      · simp [hj]
    have l7 : ∀ j, eb (cg M 0 0 7) j = if j = k then false else eb (cg M 0 0 7) j := by
      intro j
      by_cases hj : j = k
      · rw [if_pos hj, hj]; exact (i6 k (Nat.le_refl k)).1
      · rw [if_neg hj]
    have l8 : ∀ j, eb (cg M 0 0 8) j = if j = k then false else eb (cg M 0 0 8) j := by
      intro j
      by_cases hj : j = k
      · rw [if_pos hj, hj]; exact (i6 k (Nat.le_refl k)).2
      · rw [if_neg hj]
    have nk : ∀ (w v : Int32) (b : Nat), b ≠ k → rg (rs (rs N 1323 0 k w) 1322 0 k v) 1323 0 b = rg N 1323 0 b ∧ rg (rs (rs N 1323 0 k w) 1322 0 k v) 1322 0 b = rg N 1322 0 b := by
      intro w v b hb
      refine ⟨?_, ?_⟩
      · rw [rg_rs, if_neg (fun h => hb h.2.2), rg_rs, if_neg (fun h => hb h.2.2)]
      · rw [rg_rs, if_neg (fun h => hb h.2.2), rg_rs, if_neg (fun h => hb h.2.2)]
    by_cases hd : rg N 1302 0 k ≤ 0
    · have hz : rg N 1302 0 k = 0 := Int32.le_antisymm hd pw.2.1
      have hz' : rg (rs N 1323 0 k 1) 1302 0 k = 0 := by rw [rg_rs, if_neg (by omega), hz]
      simp only [hd, m0_spendRest_112, m12_goTick_45, m12_goTick_64, m12_goTick_88, ezin_nI (show k < 10 by omega) (show 10 < 2 ^ 31 by decide), ex_nI (show k < 2 ^ 31 by omega), hz, hz', nar0, nar1, Int32.le_refl, ep1, zbd_s, zbv_s, zgd_t, Bool.and_true, Bool.true_and, Bool.and_self, if_true, if_false, e_01, eq_self, Bool.false_eq_true]
      refine fin M _ false false eF_refl rfl (eH_rs (eH_rs eH_refl rfl) rfl) (eG1_fr i4 (K := []) (K' := [1322, 1323]) eF_refl (by repeat (first | exact eH_refl | refine eH_rs ?_ rfl | refine eH_rsl ?_)) rfl rfl) l7 l8 ?_ ?_ (nk 1 0)
      · rw [rg_rs, if_neg (by omega), rg_rs, if_pos ⟨rfl, rfl, rfl⟩]; rfl
      · rw [rg_rs, if_pos ⟨rfl, rfl, rfl⟩]; rfl
    · have body : ∀ (j : Nat) (on : Bool) (x3 : Int32), j < 7 → x3 = (if on then 1 else 0) → ∃ MC' MR', m0_spendRest_68 (m0_spendRest_12 f) (nI k) k x3 k (nI j) M = some MC' ∧ m12_goTick_41 (m12_goTick_2 f) (nI t) (nI k) x3 (nI k) (nI j) N = tickEnd (nI t) MR' ∧ eF [10007, 10008, 10202] MC MC' ∧ MC'.2 = MC.2 ∧ eH [1302, 1322, 1323] MR MR' ∧ eG1 m MC' MR' ∧ eUp m MC' MR' := by
        intro j on x3 hj hx3
        obtain ⟨s1, s2, -⟩ := g0.2.2.2.2 j hj
        have sC : cg M 401 0 j = rg MR 1312 0 j := by rw [i1 401 0 j rfl, s1]
        have sR : rg N 1312 0 j = rg MR 1312 0 j := i3 1312 0 j rfl
        obtain ⟨w, hw⟩ : ∃ w, w = eSp (rg N 1302 0 k) (rg MR 1312 0 j) := ⟨_, rfl⟩
        have hw0 : 0 ≤ w ∧ w ≤ 30000 := by rw [hw]; exact eSp_ok pw.2.1 pw.2.2 s2
        have G1 := eG1_pow (b := k) i4 hw0
        obtain ⟨M1, hM1⟩ : ∃ X, X = cs M 2 k 2 w := ⟨_, rfl⟩
        obtain ⟨N1, hN1⟩ : ∃ X, X = rs N 1302 0 k w := ⟨_, rfl⟩
        rw [← hM1, ← hN1] at G1
        have e1 : rg N1 1302 0 k = w := by rw [hN1, rg_rs, if_pos ⟨rfl, rfl, rfl⟩]
        have fM : eF [10202] M M1 := by rw [hM1]; exact eF_cs eF_refl rfl
        have fN : eH [1302] N N1 := by rw [hN1]; exact eH_rs eH_refl rfl
        have e7 : cg M1 0 0 7 = cg M 0 0 7 := fM 0 0 7 rfl
        have e8 : cg M1 0 0 8 = cg M 0 0 8 := fM 0 0 8 rfl
        have hp1 : M1.2 = M.2 := by rw [hM1]; rfl
        have nk1 : ∀ (w v : Int32) (b : Nat), b ≠ k → rg (rs (rs N1 1323 0 k w) 1322 0 k v) 1323 0 b = rg N 1323 0 b ∧ rg (rs (rs N1 1323 0 k w) 1322 0 k v) 1322 0 b = rg N 1322 0 b := by
          intro w v b hb
          refine ⟨?_, ?_⟩
          · rw [rg_rs, if_neg (fun h => hb h.2.2), rg_rs, if_neg (fun h => hb h.2.2)]; exact fN 1323 0 b rfl
          · rw [rg_rs, if_neg (fun h => hb h.2.2), rg_rs, if_neg (fun h => hb h.2.2)]; exact fN 1322 0 b rfl
        have g3 : ∀ (w v : Int32), rg (rs (rs N1 1323 0 k w) 1322 0 k v) 1323 0 k = w ∧ rg (rs (rs N1 1323 0 k w) 1322 0 k v) 1322 0 k = v := by
          intro w v
          refine ⟨?_, ?_⟩
          · rw [rg_rs, if_neg (by omega), rg_rs, if_pos ⟨rfl, rfl, rfl⟩]
          · rw [rg_rs, if_pos ⟨rfl, rfl, rfl⟩]
        have g13 : ∀ v, rg (rs N1 1323 0 k v) 1302 0 k = w := fun v => by rw [rg_rs, if_neg (by omega), e1]
        unfold m0_spendRest_68 m12_goTick_41
        rw [set_c hj, zbd_s, blt_t hk10, zgd_t, spend_c hk10, zbv_s, sC, pw.1, ← hw, ← hM1, zgd_t, dead_c G1 hk10, zbd_s, e1, ezin_nI hj (by decide), Bool.and_true, zgd_t, ex_nI (show j < 2 ^ 31 by omega), sR, spend_e hk10, zbv_s, ← hw, ← hN1]
        simp only [m12_goTick_45, m12_goTick_64, m12_goTick_88, m0_spendRest_112, ezin_nI (show k < 10 by omega) (show 10 < 2 ^ 31 by decide), ex_nI (show k < 2 ^ 31 by omega), e1, g13, nar0, nar1, ep1, zbd_s, zbv_s, zgd_t, Bool.and_true, Bool.true_and, Bool.and_self, if_true, if_false, e_01, eq_self, Bool.false_eq_true]
        by_cases hw1 : w ≤ 0
        · have hwz : w = 0 := Int32.le_antisymm hw1 hw0.1
          simp only [hwz, Int32.le_refl, nar0, nar1, zbd_s, zbv_s, zgd_t, Bool.and_true, Bool.true_and, Bool.and_self, if_true, if_false, e_01, eq_self, Bool.false_eq_true, show ((1 : Int32) = 0) = False from eq_false (by decide)]
          exact fin M1 _ false false (eF_mono fM rfl) hp1 (eH_rs (eH_rs (eH_mono fN rfl) rfl) rfl) (eG1_fr G1 (K := []) (K' := [1322, 1323]) eF_refl (by repeat (first | exact eH_refl | refine eH_rs ?_ rfl | refine eH_rsl ?_)) rfl rfl) (fun j => by rw [e7]; exact l7 j) (fun j => by rw [e8]; exact l8 j) (g3 1 0).1 (g3 1 0).2 (nk1 1 0)
        · have hwz : ¬ w = 0 := fun h => hw1 (by rw [h]; exact Int32.le_refl 0)
          simp only [hw1, hwz, nar0, nar1, zbd_s, zbv_s, zgd_t, Bool.and_true, Bool.true_and, Bool.and_self, if_true, if_false, e_01, eq_self, Bool.false_eq_true]
          cases on with
          | false =>
            have hx : x3 = 0 := hx3
            simp only [hx, nar0, zbd_s, zbv_s, zgd_t, Bool.and_true, Bool.true_and, Bool.and_self, if_true, if_false, e_01, eq_self, Bool.false_eq_true]
            refine fin _ _ true false (eF_cs (eF_mono fM rfl) rfl) hp1 (eH_rs (eH_rs (eH_mono fN rfl) rfl) rfl) (eG1_fr G1 (K := [10007]) (K' := [1322, 1323]) (by repeat (first | exact eF_refl | refine eF_cs ?_ rfl)) (by repeat (first | exact eH_refl | refine eH_rs ?_ rfl | refine eH_rsl ?_)) rfl rfl) (fun j => ?_) (fun j => ?_) (g3 0 0).1 (g3 0 0).2 (nk1 0 0)
            · rw [e7]; exact o7 j
            · show eb (cg M1 0 0 8) j = _
              rw [e8]; exact l8 j
          | true =>
            have hx : x3 = 1 := hx3
            simp only [hx, nar1, zbd_s, zbv_s, zgd_t, Bool.and_true, Bool.true_and, Bool.and_self, if_true, if_false, e_01, eq_self, Bool.false_eq_true, show ((1 : Int32) = 0) = False from eq_false (by decide)]
            refine fin _ _ true true (eF_cs (eF_cs (eF_mono fM rfl) rfl) rfl) hp1 (eH_rs (eH_rs (eH_mono fN rfl) rfl) rfl) (eG1_fr G1 (K := [10007, 10008]) (K' := [1322, 1323]) (by repeat (first | exact eF_refl | refine eF_cs ?_ rfl)) (by repeat (first | exact eH_refl | refine eH_rs ?_ rfl | refine eH_rsl ?_)) rfl rfl) (fun j => ?_) (fun j => ?_) (g3 0 1).1 (g3 0 1).2 (nk1 0 1)
            · show eb (cg M1 0 0 7 ||| zshl 1 (nI k)) j = _
              rw [e7]; exact o7 j
            · show eb (cg M1 0 0 8 ||| zshl 1 (nI k)) j = _
              rw [e8]; exact o8 j
      simp only [hd, wakes_c i4 hm hk, zbd_s, zbv_s, zgd_t, Bool.and_true, Bool.true_and, Bool.and_self, if_true, if_false, e_01, eq_self, Bool.false_eq_true]
      rcases Bool.eq_false_or_eq_true (eOn N k (nI t)) with ho | ho
      · simp only [ho, zbd_s, zbv_s, zgd_t, Bool.and_true, Bool.true_and, Bool.and_self, if_true, if_false, e_01, eq_self, Bool.false_eq_true, show ((1 : Int32) = 0) = False from eq_false (by decide)]
        exact body 1 true 1 (by omega) rfl
      · simp only [ho, zbd_s, zbv_s, zgd_t, Bool.and_true, Bool.true_and, Bool.and_self, if_true, if_false, e_01, eq_self, Bool.false_eq_true]
        exact body 0 false 0 (by omega) rfl
