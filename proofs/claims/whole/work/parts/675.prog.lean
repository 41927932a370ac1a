theorem full_set : ∀ n : Nat, n < 9 → eSet n (fun _ => true) = zshl 1 (nI n) - 1 := by decide +kernel
theorem o_program {n : Nat} {MC : cM} {MR : rM} (h : eRel n MC MR) (x1 : Int32) (x2 : Int64) (hn : n < 600) : eO n (m11_program x1 x2 MC) (m12_program x1 x2 MR) := by
  obtain ⟨m, t, hm, ht, g0, g1, g2, g3, g4, g5, g6, g7, g8, g9⟩ := h
  have g7' := g7
  obtain ⟨⟨pn, ps, p1, p2, p3, p4, p5, p6, p7, p8⟩, p9, p10⟩ := g7'
  unfold m11_program m12_program
  rcases (Classical.em ((1 : Int32) ≤ x1 ∧ x1 ≤ 8)).symm with h2 | h2
  · simp only [out_y h2, in_n h2, zbd_s, zbv_s, zgd_t, Bool.and_true, Bool.true_and, Bool.and_self, if_true, if_false, e_01, eq_self, Bool.false_eq_true]
    exact eO_same ⟨m, t, hm, ht, g0, g1, g2, g3, g4, g5, g6, g7, g8, g9⟩
  simp only [out_n h2.1 h2.2, in_y h2.1 h2.2, zbd_s, zbv_s, zgd_t, Bool.and_true, Bool.true_and, Bool.and_self, if_true, if_false, e_01, eq_self, Bool.false_eq_true]
  obtain ⟨w, hw, rfl⟩ := eI_ofl (b := 8) (Int32.le_trans (show (0 : Int32) ≤ 1 by decide) h2.1) h2.2 (by decide)
  have hw1 : 1 ≤ w := by
    have := h2.1
    rw [show (1 : Int32) = nI 1 from rfl, eI_le (by omega) (by omega)] at this; exact this
  simp only [g0.1, g0.2.1, eI_0 (show m < 2 ^ 31 by omega)]
  by_cases hm0 : m = 0
  · simp only [hm0, if_true]
    exact eO_same ⟨m, t, hm, ht, g0, g1, g2, g3, g4, g5, g6, g7, g8, g9⟩
  simp only [hm0, if_false, m6_take]
  have q1 : cg (cs MC 6 0 2 (nI w)) 6 0 1 = nI pn := p4
  have q2 : rg (rs MR 12 0 60 (nI w)) 12 0 59 = nI pn := p5
  rw [q1, q2, ep1]
  -- the reference
  have hR : ∃ MR', m12_program_44 zfu (nI w) x2 0 0 (rs (rs MR 12 0 60 (nI w)) 12 0 59 (nI (pn + 1))) = some (nI (pn + 1), MR') ∧ eH [11259, 11260, 11261, 1362, 1364] MR MR' ∧ rg MR' 12 0 59 = nI (pn + 1) ∧ rg MR' 12 0 60 = nI w ∧ rg MR' 12 0 61 = zrem (eAdd w (eByt x2)) 251 ∧ (∀ b, b < 10 → rg MR' 1362 0 b = if b = 0 then zshl 1 (nI w) - 1 else 0) ∧ (∀ j, rg MR' 1364 0 j = if j < w then eByt x2 j else rg MR 1364 0 j) := by
    refine eloop (σ := rM) (fun f k M => ∃ MR', m12_program_44 f (nI w) x2 0 (nI k) M = some (nI (pn + 1), MR') ∧ eH [11259, 11260, 11261, 1362, 1364] MR MR' ∧ rg MR' 12 0 59 = nI (pn + 1) ∧ rg MR' 12 0 60 = nI w ∧ rg MR' 12 0 61 = zrem (eAdd w (eByt x2)) 251 ∧ (∀ b, b < 10 → rg MR' 1362 0 b = if b = 0 then zshl 1 (nI w) - 1 else 0) ∧ (∀ j, rg MR' 1364 0 j = if j < w then eByt x2 j else rg MR 1364 0 j)) (fun k M => eH [11259, 11260, 1362] MR M ∧ rg M 12 0 59 = nI (pn + 1) ∧ rg M 12 0 60 = nI w ∧ ∀ b, b < k → rg M 1362 0 b = if b = 0 then zshl 1 (nI w) - 1 else 0) (m := 10) (k0 := 0) (by omega) ?_ ?_ (zfu_gt (by omega)) ⟨eH_rs (eH_rs eH_refl rfl) rfl, rfl, rfl, fun b hb => absurd hb (by omega)⟩
    · rintro f M ⟨i1, i2, i3, i4⟩
      simp only [m12_program_44, show ((10 : Int32) ≤ nI 10) = True from eq_true (by decide), zbd_s, zbv_s, zgd_t, Bool.and_true, Bool.true_and, Bool.and_self, if_true, if_false, e_01, eq_self, Bool.false_eq_true]
      refine eloop (σ := rM) (fun f k M' => ∃ MR', m12_program_81 f (nI w) x2 (eAdd k (eByt x2)) (nI k) M' = some (nI (pn + 1), MR') ∧ eH [11259, 11260, 11261, 1362, 1364] MR MR' ∧ rg MR' 12 0 59 = nI (pn + 1) ∧ rg MR' 12 0 60 = nI w ∧ rg MR' 12 0 61 = zrem (eAdd w (eByt x2)) 251 ∧ (∀ b, b < 10 → rg MR' 1362 0 b = if b = 0 then zshl 1 (nI w) - 1 else 0) ∧ (∀ j, rg MR' 1364 0 j = if j < w then eByt x2 j else rg MR 1364 0 j)) (fun k M' => eH [1364] M M' ∧ ∀ j, rg M' 1364 0 j = if j < k then eByt x2 j else rg MR 1364 0 j) (m := w) (k0 := 0) (by omega) ?_ ?_ (zfu_gt (by omega)) ⟨eH_refl, fun j => i1 1364 0 j rfl⟩
      · rintro f M' ⟨j1, j2⟩
        simp only [m12_program_81, eI_le (show w < 2 ^ 31 by omega) (show w < 2 ^ 31 by omega), show (w ≤ w) = True from eq_true (by omega), show znz 251 = true from rfl, zbd_s, zbv_s, zgd_t, Bool.and_true, Bool.true_and, Bool.and_self, if_true, if_false, e_01, eq_self, Bool.false_eq_true]
        have e59 : rg (rs M' 12 0 61 (zrem (eAdd w (eByt x2)) 251)) 12 0 59 = nI (pn + 1) := by
          rw [rg_rs, if_neg (by decide), j1 12 0 59 rfl, i2]
        refine ⟨_, by rw [e59], eH_rs (eH_trans (eH_mono i1 rfl) (eH_mono j1 rfl)) rfl, e59, ?_, rfl, fun b hb => ?_, fun j => ?_⟩
        · rw [rg_rs, if_neg (by decide), j1 12 0 60 rfl, i3]
        · rw [rg_rs, if_neg (by omega), j1 1362 0 b rfl, i4 b hb]
        · rw [rg_rs, if_neg (by omega), j2 j]
      · rintro f k M' _ hk ⟨j1, j2⟩ ih
        have hv : rg (rs M' 1364 0 k (eByt x2 k)) 1364 0 k = eByt x2 k := by simp [rg_rs]
        simp only [m12_program_81, eI_le (show w < 2 ^ 31 by omega) (show k < 2 ^ 31 by omega), show (w ≤ k) = False from eq_false (by omega), ezin_nI (show k < 80 by omega) (show 80 < 2 ^ 31 by decide), ex_nI (show k < 2 ^ 31 by omega), e8, ep1, zbd_s, zbv_s, zgd_t, Bool.and_true, Bool.true_and, Bool.and_self, if_true, if_false, e_01, eq_self, Bool.false_eq_true]
        rw [show Int64.toInt32 ((zshrL x2 (nI (8 * k))) &&& (255 : Int64)) = eByt x2 k from rfl, hv]
        refine ih _ ⟨eH_rs j1 rfl, fun j => ?_⟩
        have := j2 j
        simp only [rg_rs]
        grind
    · rintro f k M _ hk ⟨i1, i2, i3, i4⟩ ih
      simp only [m12_program_44, m12_program_71, show ((10 : Int32) ≤ nI k) = False from eq_false (by rw [show (10 : Int32) = nI 10 from rfl, eI_le (by omega) (by omega)]; omega), eI_0 (show k < 2 ^ 31 by omega), ezin_nI (show k < 10 by omega) (show 10 < 2 ^ 31 by decide), ex_nI (show k < 2 ^ 31 by omega), ep1, zbd_s, zbv_s, zgd_t, Bool.and_true, Bool.true_and, Bool.and_self, if_true, if_false, e_01, eq_self, Bool.false_eq_true]
      by_cases hk0 : k = 0
      · simp only [hk0, if_true]
        subst hk0
        refine ih _ ⟨eH_rs i1 rfl, by rw [rg_rs, if_neg (by decide)]; exact i2, by rw [rg_rs, if_neg (by decide)]; exact i3, fun b hb => ?_⟩
        have : b = 0 := by omega
        subst this
        simp [rg_rs]
      · simp only [hk0, if_false]
        refine ih _ ⟨eH_rs i1 rfl, by rw [rg_rs, if_neg (by omega)]; exact i2, by rw [rg_rs, if_neg (by omega)]; exact i3, fun b hb => ?_⟩
        have := i4 b
        simp only [rg_rs]
        grind
  -- the class
  have hC : ∃ MC', m6_take_18 zfu (nI w) x2 0 (cs (cs MC 6 0 2 (nI w)) 6 0 1 (nI (pn + 1))) = some (nI (pn + 1), MC') ∧ eF [10601, 10602, 10603, 10216, 317] MC MC' ∧ MC'.2 = MC.2 ∧ cg MC' 6 0 1 = nI (pn + 1) ∧ cg MC' 6 0 2 = nI w ∧ cg MC' 6 0 3 = zrem (eAdd w (eByt x2)) 251 ∧ (∀ b, cg MC' 2 b 16 = if b = 0 then zshl 1 (nI w) - 1 else if b < m then 0 else cg MC 2 b 16) ∧ (∀ b j, cg MC' 317 b j = if b = 0 ∧ j < w then eByt x2 j else cg MC 317 b j) := by
    refine eloop (σ := cM) (fun f k M => ∃ MC', m6_take_18 f (nI w) x2 (nI k) M = some (nI (pn + 1), MC') ∧ eF [10601, 10602, 10603, 10216, 317] MC MC' ∧ MC'.2 = MC.2 ∧ cg MC' 6 0 1 = nI (pn + 1) ∧ cg MC' 6 0 2 = nI w ∧ cg MC' 6 0 3 = zrem (eAdd w (eByt x2)) 251 ∧ (∀ b, cg MC' 2 b 16 = if b = 0 then zshl 1 (nI w) - 1 else if b < m then 0 else cg MC 2 b 16) ∧ (∀ b j, cg MC' 317 b j = if b = 0 ∧ j < w then eByt x2 j else cg MC 317 b j)) (fun k M => eF [10601, 10602, 10216] MC M ∧ M.2 = MC.2 ∧ cg M 6 0 1 = nI (pn + 1) ∧ cg M 6 0 2 = nI w ∧ ∀ b, cg M 2 b 16 = if b < k then 0 else cg MC 2 b 16) (m := m) (k0 := 0) (by omega) ?_ ?_ (zfu_gt (by omega)) ⟨eF_cs (eF_cs eF_refl rfl) rfl, rfl, rfl, rfl, fun b => by simp [cg_cs]⟩
    · rintro f M ⟨i1, i2, i3, i4, i5⟩
      have hm3 : cg M 3 0 4 = nI m := by rw [i1 3 0 4 rfl, g0.1]
      simp only [m6_take_18, hm3, eI_le (show m < 2 ^ 31 by omega) (show m < 2 ^ 31 by omega), show (m ≤ m) = True from eq_true (by omega), show m3_of 0 M = some (0, M) from of_y (b := 0) (by decide), zbd_s, zbv_s, zgd_t, Bool.and_true, Bool.true_and, Bool.and_self, if_true, if_false, e_01, eq_self, Bool.false_eq_true]
      refine eloop (σ := cM) (fun f k M' => ∃ MC', m6_take_62 f (nI w) x2 0 (nI k) M' = some (nI (pn + 1), MC') ∧ eF [10601, 10602, 10603, 10216, 317] MC MC' ∧ MC'.2 = MC.2 ∧ cg MC' 6 0 1 = nI (pn + 1) ∧ cg MC' 6 0 2 = nI w ∧ cg MC' 6 0 3 = zrem (eAdd w (eByt x2)) 251 ∧ (∀ b, cg MC' 2 b 16 = if b = 0 then zshl 1 (nI w) - 1 else if b < m then 0 else cg MC 2 b 16) ∧ (∀ b j, cg MC' 317 b j = if b = 0 ∧ j < w then eByt x2 j else cg MC 317 b j)) (fun k M' => eF [10216, 317] M M' ∧ M'.2 = MC.2 ∧ (∀ b, cg M' 2 b 16 = if b = 0 then eSet k (fun _ => true) else if b < m then 0 else cg MC 2 b 16) ∧ ∀ b j, cg M' 317 b j = if b = 0 ∧ j < k then eByt x2 j else cg MC 317 b j) (m := w) (k0 := 0) (by omega) ?_ ?_ (zfu_gt (by omega)) ⟨eF_refl, i2, fun b => ?_, fun b j => ?_⟩
      · rintro f M' ⟨j1, j2, j3, j4⟩
        have e2 : cg M' 6 0 2 = nI w := by rw [j1 6 0 2 rfl, i4]
        have e1 : cg M' 6 0 1 = nI (pn + 1) := by rw [j1 6 0 1 rfl, i3]
        have hs := eAdd_congr (n := w) (f := eByt x2) (g := cg M' 317 0) (fun p hp => by rw [j4 0 p]; simp [hp])
        simp only [m6_take_62, eI_le (show w < 2 ^ 31 by omega) (show w < 2 ^ 31 by omega), show (w ≤ w) = True from eq_true (by omega), sum_c (show 0 < 10 by decide) e2 hw, hs, show znz 251 = true from rfl, zbd_s, zbv_s, zgd_t, Bool.and_true, Bool.true_and, Bool.and_self, if_true, if_false, e_01, eq_self, Bool.false_eq_true]
        have e1' : cg (cs M' 6 0 3 (zrem (eAdd w (eByt x2)) 251)) 6 0 1 = nI (pn + 1) := by rw [cg_cs, if_neg (by decide), e1]
        refine ⟨_, by rw [e1'], eF_cs (eF_trans (eF_mono i1 rfl) (eF_mono j1 rfl)) rfl, j2, e1', ?_, rfl, fun b => ?_, fun b j => ?_⟩
        · rw [cg_cs, if_neg (by decide), e2]
        · rw [cg_cs, if_neg (by omega), j3 b, full_set w (by omega)]
        · rw [cg_cs, if_neg (by omega), j4 b j]
      · rintro f k M' _ hk ⟨j1, j2, j3, j4⟩ ih
        have e0 : cg M' 2 0 16 = eSet k (fun _ => true) := by rw [j3 0, if_pos rfl]
        simp only [m6_take_62, eI_le (show w < 2 ^ 31 by omega) (show k < 2 ^ 31 by omega), show (w ≤ k) = False from eq_false (by omega), tp_c (show 0 < 10 by decide) (show k < 8 by omega), blt_t (show 0 < 10 by decide), e8, ep1, e0, zbd_s, zbv_s, zgd_t, Bool.and_true, Bool.true_and, Bool.and_self, if_true, if_false, e_01, eq_self, Bool.false_eq_true]
        rw [show Int64.toInt32 ((zshrL x2 (nI (8 * k))) &&& (255 : Int64)) = eByt x2 k from rfl]
        refine ih _ ⟨eF_cs (eF_cs j1 rfl) rfl, j2, fun b => ?_, fun b j => ?_⟩
        · have := j3 b
          rw [eSet_s]
          simp only [cg_cs]
          grind
        · have := j4 b j
          simp only [cg_cs]
          grind
      · rw [i5 b]
        by_cases hb : b = 0
        · subst hb; simp [eSet]; intro h; omega
        · simp [hb]
      · rw [i1 317 b j rfl]; simp
    · rintro f k M _ hk ⟨i1, i2, i3, i4, i5⟩ ih
      have hm3 : cg M 3 0 4 = nI m := by rw [i1 3 0 4 rfl, g0.1]
      simp only [m6_take_18, hm3, eI_le (show m < 2 ^ 31 by omega) (show k < 2 ^ 31 by omega), show (m ≤ k) = False from eq_false (by omega), of_y (show k < 10 by omega), blt_t (show k < 10 by omega), ep1, zbd_s, zbv_s, zgd_t, Bool.and_true, Bool.true_and, Bool.and_self, if_true, if_false, e_01, eq_self, Bool.false_eq_true]
      refine ih _ ⟨eF_cs i1 rfl, i2, i3, i4, fun b => ?_⟩
      have := i5 b
      simp only [cg_cs]
      grind
  obtain ⟨MR', r1, r2, r3, r4, r5, r6, r7⟩ := hR
  obtain ⟨MC', c1, c2, c3, c4, c5, c6, c7, c8⟩ := hC
  rw [r1, c1, zbd_s]
  have hP' : ∀ k i s, cp MC' k i s = cp MC k i s := by intro k i s; unfold cp; rw [c3]
  refine eO_fin rfl ⟨m, t, hm, ht, eG0_fr g0 c2 r2 rfl rfl, eG1_fr g1 c2 r2 rfl rfl, eG2_fr g2 c2 r2 rfl rfl, eG3_fr g3 c2 r2 (fun b k => hP' 901 b k) rfl rfl, eG4_fr g4 c2 r2 rfl rfl, eG5_fr g5 c2 r2 rfl rfl, eG6_fr g6 c2 r2 rfl rfl, ?_, eG8_fr g8 c2 r2 ⟨hP' 4 0 8, hP' 4 0 9⟩ rfl rfl, eG9_fr g9 c2 r2 rfl rfl⟩
  refine ⟨⟨pn + 1, w, by omega, hw, by omega, c4, r3, c5, r4, by rw [c6, r5]⟩, fun b hb => ⟨?_, ?_, fun hmb => ?_⟩, fun b p hb hp => ?_⟩
  · rw [c7 b, r6 b hb]
    by_cases hb0 : b = 0
    · simp [hb0]
    · rw [if_neg hb0, if_neg hb0]
      split
      · rfl
      · rw [(p9 b hb).1]; exact (p9 b hb).2.2 (by omega)
  · rw [c2 2 b 18 rfl, r2 1366 0 b rfl]; exact (p9 b hb).2.1
  · rw [r6 b hb, if_neg (by omega)]
  · rw [c8 b p, r7]
    have hby := eByt_ok x2 p
    have := p10 b p hb hp
    by_cases hb0 : b = 0
    · subst hb0
      simp only [Nat.mul_zero, Nat.zero_add, true_and] at *
      split
      · exact ⟨rfl, hby⟩
      · exact this
    · rw [if_neg (by omega), if_neg (by omega)]; exact this
