theorem partFor_e {n m t ps b p : Nat} {MC0 MC : cM} {MR0 MR : rM} (hm : m ≤ 10) (hps : ps ≤ 8) (h0 : rg MR0 12 0 0 = nI m) (h60 : rg MR0 12 0 60 = nI ps) (hI : eHv n m t ps MC0 MR0 MC MR) (hb : b < m) (hp : p < ps) : m12_partFor (nI b) (nI p) MR = some (if eb (rg MR0 1362 0 b) p then -1 else eBI (eFd (ePG MR0 b p) m 0), MR) := by
  obtain ⟨i1, i2, i3, i4, i5, i6, i7, i8, i9⟩ := hI
  have hm3 : rg MR 12 0 0 = nI m := by rw [i3 12 0 0 rfl, h0]
  have h6 : rg MR 12 0 60 = nI ps := by rw [i3 12 0 60 rfl, h60]
  have hb10 : b < 10 := by omega
  unfold m12_partFor
  simp only [h6, eI_le (show ps < 2 ^ 31 by omega) (show p < 2 ^ 31 by omega), show (ps ≤ p) = False from eq_false (by omega), ezin_nI (show b < 10 by omega) (show 10 < 2 ^ 31 by decide), ex_nI (show b < 2 ^ 31 by omega), isIn_y (show p < 32 by omega), (i7 b hb).1, ei_1, zbd_s, zbv_s, zgd_t, Bool.and_true, Bool.true_and, Bool.and_self, if_true, if_false, e_01, eq_self, Bool.false_eq_true]
  by_cases c0 : eb (rg MR0 1362 0 b) p = true
  · simp [c0]
  · simp only [show eb (rg MR0 1362 0 b) p = false from by simpa using c0, if_true, Bool.false_eq_true, if_false]
    refine eloop0 (fun f k => m12_partFor_25 f (nI b) (nI p) (nI k) MR = some (eBI (eFd (ePG MR0 b p) (m - k) k), MR)) (m := m) (k0 := 0) (by omega) ?_ ?_ (zfu_gt (by omega))
    · intro f
      simp only [m12_partFor_25, hm3, eI_le (show m < 2 ^ 31 by omega) (show m < 2 ^ 31 by omega), show (m ≤ m) = True from eq_true (by omega), Nat.sub_self, eFd, eBI, zbd_s, zbv_s, zgd_t, Bool.and_true, Bool.true_and, Bool.and_self, if_true, if_false, e_01, eq_self, Bool.false_eq_true]
    · intro f k _ hk ih
      have hk10 : k < 10 := by omega
      rw [show m - k = (m - (k + 1)) + 1 by omega]
      have he : rg MR 1307 0 b = rg MR0 1307 0 b := i3 1307 0 b rfl
      simp only [m12_partFor_25, m12_partFor_70, hm3, eI_le (show m < 2 ^ 31 by omega) (show k < 2 ^ 31 by omega), show (m ≤ k) = False from eq_false (by omega), ezin_nI (show k < 10 by omega) (show 10 < 2 ^ 31 by decide), ex_nI (show k < 2 ^ 31 by omega), ezin_nI (show b < 10 by omega) (show 10 < 2 ^ 31 by decide), ex_nI (show b < 2 ^ 31 by omega), he, (i7 k hk).1, (i7 k hk).2, isIn_y (show k < 32 by omega), isIn_y (show p < 32 by omega), ei_1, ep1, eFd, zbd_s, zbv_s, zgd_t, Bool.and_true, Bool.true_and, Bool.and_self, if_true, if_false, e_01, eq_self, Bool.false_eq_true]
      rw [ih]
      by_cases c1 : eb (rg MR0 1307 0 b) k = true <;> by_cases c2 : rg MR0 1302 0 k ≤ 0 <;> by_cases c3 : eb (rg MR0 1362 0 k) p = true <;> simp [c1, c2, c3, ePG, eLiv, eBI]
theorem hand94_e {n m t ps b : Nat} {MC0 MC : cM} {MR0 MR : rM} (hm : m ≤ 10) (hps : ps ≤ 8) (h0 : rg MR0 12 0 0 = nI m) (h60 : rg MR0 12 0 60 = nI ps) (hI : eHv n m t ps MC0 MR0 MC MR) (hb : b < m) (k76 : Int32 → Int32 → rM → Option (Int32 × rM)) (x1 : Int32) : m12_hand_94 k76 zfu x1 (nI b) 0 0 MR = match eCh MR0 m b ps 0 with
    | none => k76 x1 (nI (b + 1)) MR
    | some q => k76 (x1 + 1) (nI (b + 1)) (eGvR q.2 b q.1 MR) := by
  have hb10 : b < 10 := by omega
  have h6 : rg MR 12 0 60 = nI ps := by rw [hI.2.2.1 12 0 60 rfl, h60]
  have hdone : ∀ f y k M', k ≤ ps → rg M' 12 0 60 = nI ps → m12_hand_94 k76 (f + 1) y (nI b) 1 (nI k) M' = k76 y (nI (b + 1)) M' := by
    intro f y k M' hk h
    simp only [m12_hand_94, m12_hand_198, h, ep1, e_01, zbd_s, zbv_s, zgd_t, Bool.and_true, Bool.true_and, Bool.and_self, if_true, if_false, e_01, eq_self, Bool.false_eq_true]
    split <;> rfl
  refine eloop0 (fun f k => m12_hand_94 k76 (f + 1) x1 (nI b) 0 (nI k) MR = match eCh MR0 m b (ps - k) k with
    | none => k76 x1 (nI (b + 1)) MR
    | some q => k76 (x1 + 1) (nI (b + 1)) (eGvR q.2 b q.1 MR)) (m := ps) (k0 := 0) (f := 99999) (by omega) ?_ ?_ (by omega)
  · intro f
    simp only [m12_hand_94, m12_hand_198, h6, eI_le (show ps < 2 ^ 31 by omega) (show ps < 2 ^ 31 by omega), show (ps ≤ ps) = True from eq_true (by omega), Nat.sub_self, eCh, ep1, zbd_s, zbv_s, zgd_t, Bool.and_true, Bool.true_and, Bool.and_self, if_true, if_false, e_01, eq_self, Bool.false_eq_true]
  · intro f k _ hk ih
    rw [show ps - k = (ps - (k + 1)) + 1 by omega]
    rw [m12_hand_94]
    simp only [m12_hand_192, h6, eI_le (show ps < 2 ^ 31 by omega) (show k < 2 ^ 31 by omega), show (ps ≤ k) = False from eq_false (by omega), partFor_e hm hps h0 h60 hI hb hk, ep1, eCh, zbd_s, zbv_s, zgd_t, Bool.and_true, Bool.true_and, Bool.and_self, if_true, if_false, e_01, eq_self, Bool.false_eq_true]
    by_cases c1 : eb (rg MR0 1362 0 b) k = true
    · simp only [c1, if_true]; exact ih
    · simp only [show eb (rg MR0 1362 0 b) k = false from by simpa using c1, Bool.false_eq_true, if_false]
      cases hF : eFd (ePG MR0 b k) m 0 with
      | none => simp only [eBI, if_true]; exact ih
      | some a =>
        have ha := eFd_ok _ _ _ _ hF
        have ha10 : a < 10 := by omega
        simp only [eBI, nI_m1 (show a < 2 ^ 31 by omega), if_false, e8, eI_add, ezin_nI (show b < 10 by omega) (show 10 < 2 ^ 31 by decide), ex_nI (show b < 2 ^ 31 by omega), ezin_nI (show 8 * a + k < 80 by omega) (show 80 < 2 ^ 31 by decide), ex_nI (show 8 * a + k < 2 ^ 31 by omega), ezin_nI (show 8 * b + k < 80 by omega) (show 80 < 2 ^ 31 by decide), ex_nI (show 8 * b + k < 2 ^ 31 by omega), spend_e hb10, spend_e ha10, show zin 3 7 = true from rfl, show zin 2 7 = true from rfl, nx_k 3 (by decide), nx_k 2 (by decide), zbd_s, zbv_s, zgd_t, Bool.and_true, Bool.true_and, Bool.and_self, if_true, if_false, e_01, eq_self, Bool.false_eq_true]
        have q0 : rg (rs MR 1362 0 b (rg MR 1362 0 b ||| zshl 1 (nI k))) 1365 0 (8 * a + k) = rg MR 1365 0 (8 * a + k) := by simp [rg_rs]
        have q1 : ∀ v, rg (rs (rs MR 1362 0 b (rg MR 1362 0 b ||| zshl 1 (nI k))) 1364 0 (8 * b + k) v) 1302 0 b = rg MR 1302 0 b := by intro v; simp [rg_rs]
        have q2 : ∀ v w, rg (rs (rs (rs MR 1362 0 b (rg MR 1362 0 b ||| zshl 1 (nI k))) 1364 0 (8 * b + k) v) 1302 0 b w) 1312 0 2 = rg MR 1312 0 2 := by intro v w; simp [rg_rs]
        have q3 : ∀ v, rg (rs (rs MR 1362 0 b (rg MR 1362 0 b ||| zshl 1 (nI k))) 1364 0 (8 * b + k) v) 1312 0 3 = rg MR 1312 0 3 := by intro v; simp [rg_rs]
        simp only [q0, q1, q2, q3]
        rw [hdone f (x1 + 1) (k + 1) _ (by omega) (by simp [rg_rs, h6])]
        rfl
theorem hand0_c {m t : Nat} {MC : cM} {MR : rM} (hm : m ≤ 10) (g0 : eG0 m t MC MR) (g1 : eG1 m MC MR) (hq : ∀ b, b < 10 → cg MC 2 b 16 = rg MR 1362 0 b) : ∃ MC', m6_handOn MC = m6_handOn_54 zfu (eSet m (eLiv MR)) 0 1 MC' ∧ eF [704] MC MC' ∧ MC'.2 = MC.2 ∧ ∀ b, b < m → cg MC' 704 0 b = rg MR 1362 0 b := by
  unfold m6_handOn
  rw [living_c hm g0 g1, zbd_s]
  refine eloop (σ := cM) (fun f k M => ∃ MC', m6_handOn_10 f (eSet m (eLiv MR)) (nI k) M = m6_handOn_54 zfu (eSet m (eLiv MR)) 0 1 MC' ∧ eF [704] MC MC' ∧ MC'.2 = MC.2 ∧ ∀ b, b < m → cg MC' 704 0 b = rg MR 1362 0 b) (fun k M => eF [704] MC M ∧ M.2 = MC.2 ∧ ∀ b, b < k → cg M 704 0 b = rg MR 1362 0 b) (m := m) (k0 := 0) (by omega) ?_ ?_ (zfu_gt (by omega)) ⟨eF_refl, rfl, fun b hb => absurd hb (by omega)⟩
  · rintro f M ⟨i1, i2, i3⟩
    have hm3 : cg M 3 0 4 = nI m := by rw [i1 3 0 4 rfl, g0.1]
    simp only [m6_handOn_10, m6_handOn_50, hm3, eI_le (show m < 2 ^ 31 by omega) (show m < 2 ^ 31 by omega), show (m ≤ m) = True from eq_true (by omega), zbd_s, zbv_s, zgd_t, Bool.and_true, Bool.true_and, Bool.and_self, if_true, if_false, e_01, eq_self, Bool.false_eq_true]
    exact ⟨M, rfl, i1, i2, i3⟩
  · rintro f k M _ hk ⟨i1, i2, i3⟩ ih
    have hm3 : cg M 3 0 4 = nI m := by rw [i1 3 0 4 rfl, g0.1]
    have hk10 : k < 10 := by omega
    have e : cg M 2 k 16 = rg MR 1362 0 k := by rw [i1 2 k 16 rfl, hq k hk10]
    simp only [m6_handOn_10, hm3, eI_le (show m < 2 ^ 31 by omega) (show k < 2 ^ 31 by omega), show (m ≤ k) = False from eq_false (by omega), show ((10 : Int32) ≤ nI k) = False from eq_false (by rw [show (10 : Int32) = nI 10 from rfl, eI_le (by omega) (by omega)]; omega), of_y hk10, blt_t hk10, ezin_nI (show k < 10 by omega) (show 10 < 2 ^ 31 by decide), ex_nI (show k < 2 ^ 31 by omega), e, ep1, zbd_s, zbv_s, zgd_t, Bool.and_true, Bool.true_and, Bool.and_self, if_true, if_false, e_01, eq_self, Bool.false_eq_true]
    refine ih _ ⟨eF_cs i1 rfl, i2, fun b hb => ?_⟩
    have := i3 b
    simp only [cg_cs]
    grind
theorem hand0_e {MR : rM} (hp : ∀ b, b < 10 → 0 ≤ rg MR 1302 0 b) : ∃ MR', m12_hand MR = m12_hand_76 zfu 0 1 MR' ∧ eH [1363, 1323, 1365] MR MR' ∧ (∀ b, b < 10 → rg MR' 1363 0 b = rg MR 1362 0 b ∧ rg MR' 1323 0 b = if rg MR 1302 0 b ≤ 0 then 1 else 0) ∧ ∀ j, j < 80 → rg MR' 1365 0 j = rg MR 1364 0 j := by
  unfold m12_hand
  refine eloop (σ := rM) (fun f k M => ∃ MR', m12_hand_2 f (nI k) M = m12_hand_76 zfu 0 1 MR' ∧ eH [1363, 1323, 1365] MR MR' ∧ (∀ b, b < 10 → rg MR' 1363 0 b = rg MR 1362 0 b ∧ rg MR' 1323 0 b = if rg MR 1302 0 b ≤ 0 then 1 else 0) ∧ ∀ j, j < 80 → rg MR' 1365 0 j = rg MR 1364 0 j) (fun k M => eH [1363, 1323] MR M ∧ ∀ b, b < k → rg M 1363 0 b = rg MR 1362 0 b ∧ rg M 1323 0 b = if rg MR 1302 0 b ≤ 0 then 1 else 0) (m := 10) (k0 := 0) (by omega) ?_ ?_ (zfu_gt (by omega)) ⟨eH_refl, fun b hb => absurd hb (by omega)⟩
  · rintro f M ⟨i1, i2⟩
    simp only [m12_hand_2, show ((10 : Int32) ≤ nI 10) = True from eq_true (by decide), zbd_s, zbv_s, zgd_t, Bool.and_true, Bool.true_and, Bool.and_self, if_true, if_false, e_01, eq_self, Bool.false_eq_true]
    refine eloop (σ := rM) (fun f k M' => ∃ MR', m12_hand_48 f (nI k) M' = m12_hand_76 zfu 0 1 MR' ∧ eH [1363, 1323, 1365] MR MR' ∧ (∀ b, b < 10 → rg MR' 1363 0 b = rg MR 1362 0 b ∧ rg MR' 1323 0 b = if rg MR 1302 0 b ≤ 0 then 1 else 0) ∧ ∀ j, j < 80 → rg MR' 1365 0 j = rg MR 1364 0 j) (fun k M' => eH [1365] M M' ∧ ∀ j, j < k → rg M' 1365 0 j = rg MR 1364 0 j) (m := 80) (k0 := 0) (by omega) ?_ ?_ (zfu_gt (by omega)) ⟨eH_refl, fun b hb => absurd hb (by omega)⟩
    · rintro f M' ⟨j1, j2⟩
      simp only [m12_hand_48, show ((80 : Int32) ≤ nI 80) = True from eq_true (by decide), zbd_s, zbv_s, zgd_t, Bool.and_true, Bool.true_and, Bool.and_self, if_true, if_false, e_01, eq_self, Bool.false_eq_true]
      refine ⟨M', rfl, eH_trans (eH_mono i1 rfl) (eH_mono j1 rfl), fun b hb => ?_, j2⟩
      rw [j1 1363 0 b rfl, j1 1323 0 b rfl]; exact i2 b hb
    · rintro f k M' _ hk ⟨j1, j2⟩ ih
      have e : rg M' 1364 0 k = rg MR 1364 0 k := by rw [j1 1364 0 k rfl, i1 1364 0 k rfl]
      simp only [m12_hand_48, show ((80 : Int32) ≤ nI k) = False from eq_false (by rw [show (80 : Int32) = nI 80 from rfl, eI_le (by omega) (by omega)]; omega), ezin_nI (show k < 80 by omega) (show 80 < 2 ^ 31 by decide), ex_nI (show k < 2 ^ 31 by omega), e, ep1, zbd_s, zbv_s, zgd_t, Bool.and_true, Bool.true_and, Bool.and_self, if_true, if_false, e_01, eq_self, Bool.false_eq_true]
      refine ih _ ⟨eH_rs j1 rfl, fun j hj => ?_⟩
      have := j2 j
      simp only [rg_rs]
      grind
  · rintro f k M _ hk ⟨i1, i2⟩ ih
    have e : rg M 1362 0 k = rg MR 1362 0 k := i1 1362 0 k rfl
    have e2 : rg (rs M 1363 0 k (rg MR 1362 0 k)) 1302 0 k = rg MR 1302 0 k := by rw [rg_rs, if_neg (by omega), i1 1302 0 k rfl]
    have h0 : (rg MR 1302 0 k = 0) = (rg MR 1302 0 k ≤ 0) := propext ⟨fun h => by rw [h]; decide, fun h => Int32.le_antisymm h (hp k hk)⟩
    have hb1 : vp_nar .boolean (1 : Int32) = 1 := rfl
    have hb0 : vp_nar .boolean (0 : Int32) = 0 := rfl
    simp only [m12_hand_2, m12_hand_39, show ((10 : Int32) ≤ nI k) = False from eq_false (by rw [show (10 : Int32) = nI 10 from rfl, eI_le (by omega) (by omega)]; omega), ezin_nI (show k < 10 by omega) (show 10 < 2 ^ 31 by decide), ex_nI (show k < 2 ^ 31 by omega), e, e2, h0, hb1, hb0, ep1, zbd_s, zbv_s, zgd_t, Bool.and_true, Bool.true_and, Bool.and_self, if_true, if_false, e_01, eq_self, Bool.false_eq_true]
    have hstep : ∀ v, v = (if rg MR 1302 0 k ≤ 0 then (1 : Int32) else 0) → eH [1363, 1323] MR (rs (rs M 1363 0 k (rg MR 1362 0 k)) 1323 0 k v) ∧ ∀ b, b < k + 1 → rg (rs (rs M 1363 0 k (rg MR 1362 0 k)) 1323 0 k v) 1363 0 b = rg MR 1362 0 b ∧ rg (rs (rs M 1363 0 k (rg MR 1362 0 k)) 1323 0 k v) 1323 0 b = if rg MR 1302 0 b ≤ 0 then 1 else 0 := by
      intro v hv
      refine ⟨eH_rs (eH_rs i1 rfl) rfl, fun b hb => ?_⟩
      have := i2 b
      simp only [rg_rs]
      grind
    by_cases hd : rg MR 1302 0 k ≤ 0
    · simp only [hd, if_true]
      exact ih _ (hstep 1 (by simp [hd]))
    · simp only [hd, if_false]
      exact ih _ (hstep 0 (by simp [hd]))
theorem o_hand {n : Nat} {MC : cM} {MR : rM} (h : eRel n MC MR) : eO n (m11_hand MC) (m12_hand MR) := by
  obtain ⟨m, t, hm, ht, g0, g1, g2, g3, g4, g5, g6, g7, g8, g9⟩ := h
  have g7' := g7
  obtain ⟨⟨pn, ps, p1, p2, p3, p4, p5, p6, p7, p8⟩, p9, p10⟩ := g7'
  obtain ⟨MC1, c1, c2, c3, c4⟩ := hand0_c hm g0 g1 (fun b hb => (p9 b hb).1)
  obtain ⟨MR1, r1, r2, r3, r4⟩ := hand0_e (MR := MR) (fun b hb => (g1.1 b hb).2.2.1.2.1)
  unfold m11_hand
  rw [c1, r1]
  obtain ⟨N, hN⟩ : ∃ N, N = max m 1 := ⟨_, rfl⟩
  have hfin : ∀ (x : Int32) (M : cM) (M' : rM), eHv n m t ps MC MR M M' → eO n (some (x, M)) (some (x, M')) := by
    rintro x M M' ⟨i1, i2, i3, i4, i5, i6, i7, i8, i9⟩
    have hP' : ∀ k i s, cp M k i s = cp MC k i s := by intro k i s; unfold cp; rw [i2]
    exact eO_fin rfl ⟨m, t, hm, ht, eG0_fr g0 i1 i3 rfl rfl, i4, eG2_fr g2 i1 i3 rfl rfl, eG3_fr g3 i1 i3 (fun b k => hP' 901 b k) rfl rfl, eG4_fr g4 i1 i3 rfl rfl, eG5_fr g5 i1 i3 rfl rfl, eG6_fr g6 i1 i3 rfl rfl, eG7_mono i5 (by omega), eG8_fr g8 i1 i3 ⟨hP' 4 0 8, hP' 4 0 9⟩ rfl rfl, eG9_fr g9 i1 i3 rfl rfl⟩
  refine eloop (σ := Int32 × cM × rM) (fun f k s => eO n (zbd (m6_handOn_54 f (eSet m (eLiv MR)) s.1 (nI k) s.2.1) (fun r1 M1 => some (r1, M1))) (m12_hand_76 f s.1 (nI k) s.2.2)) (fun k s => eHv n m t ps MC MR s.2.1 s.2.2) (m := N) (k0 := 1) (s := (0, MC1, MR1)) (by omega) ?_ ?_ (zfu_gt (by omega)) ?_
  · rintro f ⟨x, M, M'⟩ hI
    have hm3 : cg M 3 0 4 = nI m := by rw [hI.1 3 0 4 rfl, g0.1]
    have hm4 : rg M' 12 0 0 = nI m := by rw [hI.2.2.1 12 0 0 rfl, g0.2.1]
    simp only [m6_handOn_54, m12_hand_76, hm3, hm4, eI_le (show m < 2 ^ 31 by omega) (show N < 2 ^ 31 by omega), show (m ≤ N) = True from eq_true (by omega), zbd_s, zbv_s, zgd_t, Bool.and_true, Bool.true_and, Bool.and_self, if_true, if_false, e_01, eq_self, Bool.false_eq_true]
    exact hfin x M M' hI
  · rintro f k ⟨x, M, M'⟩ hk1 hkN hI ih
    have hk : k < m := by omega
    have hk10 : k < 10 := by omega
    have hm3 : cg M 3 0 4 = nI m := by rw [hI.1 3 0 4 rfl, g0.1]
    have hm4 : rg M' 12 0 0 = nI m := by rw [hI.2.2.1 12 0 0 rfl, g0.2.1]
    have hl : eb (eSet m (eLiv MR)) k = eLiv MR k := by rw [eb_set (by omega)]; simp [hk]
    have hd := (hI.2.2.2.2.2.2.1 k hk).2
    simp only [m6_handOn_54, m6_handOn_86, m12_hand_76, hm3, hm4, eI_le (show m < 2 ^ 31 by omega) (show k < 2 ^ 31 by omega), show (m ≤ k) = False from eq_false (by omega), zshr1_1 (show k < 32 by omega), hl, ezin_nI (show k < 10 by omega) (show 10 < 2 ^ 31 by decide), ex_nI (show k < 2 ^ 31 by omega), hd, gets_c hm p2 g0 p6 hI hk, ep1, zbd_s, zbv_s, zgd_t, Bool.and_true, Bool.true_and, Bool.and_self, if_true, if_false, e_01, eq_self, Bool.false_eq_true]
    by_cases hL : rg MR 1302 0 k ≤ 0
    · have hLv : eLiv MR k = false := by unfold eLiv; simp [hL]
      have hdone : ∀ f y j M'', j ≤ ps → rg M'' 12 0 60 = nI ps → m12_hand_94 (m12_hand_76 f) zfu y (nI k) 1 (nI j) M'' = m12_hand_76 f y (nI (k + 1)) M'' := by
        intro f y j M'' hj h
        have : ∀ g, m12_hand_94 (m12_hand_76 f) (g + 1) y (nI k) 1 (nI j) M'' = m12_hand_76 f y (nI (k + 1)) M'' := by
          intro g
          simp only [m12_hand_94, m12_hand_198, h, ep1, e_01, zbd_s, zbv_s, zgd_t, Bool.and_true, Bool.true_and, Bool.and_self, if_true, if_false, e_01, eq_self, Bool.false_eq_true]
          split <;> rfl
        exact this 99999
      simp only [hL, hLv, if_true, Bool.false_eq_true, if_false]
      rw [show m12_hand_94 (m12_hand_76 f) zfu x (nI k) 1 0 M' = _ from hdone f x 0 M' (by omega) (by rw [hI.2.2.1 12 0 60 rfl, p7])]
      exact ih (x, M, M') hI
    · have hLv : eLiv MR k = true := by unfold eLiv; simp [hL]
      simp only [hL, hLv, if_true, if_false]
      rw [hand94_e hm p2 g0.2.1 p7 hI hk]
      cases hch : eCh MR m k ps 0 with
      | none => simp only [zbd_s, if_true]; exact ih (x, M, M') hI
      | some q =>
        simp only [zbd_s, e_01, if_false]
        refine ih (x + 1, eGvC q.2 k q.1 M, eGvR q.2 k q.1 M') ?_
        have hq : ∀ d p, p + d = ps → eCh MR m k d p = some q → q.1 < ps ∧ eb (rg MR 1362 0 k) q.1 = false ∧ q.2 < m ∧ eb (rg MR 1362 0 q.2) q.1 = true := by
          intro d
          induction d with
          | zero => intro p _ h; cases h
          | succ d ihd =>
            intro p hp h
            unfold eCh at h
            split at h
            · exact ihd (p + 1) (by omega) h
            · rename_i hb
              cases hF : eFd (ePG MR k p) m 0 with
              | none => rw [hF] at h; exact ihd (p + 1) (by omega) h
              | some a =>
                rw [hF] at h
                cases h
                have := eFd_ok _ _ _ _ hF
                refine ⟨by omega, by simpa using hb, by omega, ?_⟩
                have h3 := this.2.2
                unfold ePG at h3
                simp only [Bool.and_eq_true] at h3
                exact h3.2.2
        obtain ⟨w1, w2, w3, w4⟩ := hq ps 0 (by omega) hch
        exact eHv_give hm hI g0 w3 hk (by omega) w2 w4
  · have f1 : eF [10202, 10216, 317, 704] MC MC1 := eF_mono c2 rfl
    have f2 : eH [1302, 1362, 1364, 1363, 1323, 1365] MR MR1 := eH_mono r2 rfl
    refine ⟨f1, c3, f2, eG1_fr g1 c2 r2 rfl rfl, eG7_fr g7 c2 r2 rfl rfl, c4, fun b hb => r3 b (by omega), r4, fun b p _ _ _ => r2 1364 0 _ rfl⟩
