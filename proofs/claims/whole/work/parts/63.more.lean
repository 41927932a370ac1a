/-! more of the simple calls -/
theorem eG3_mono {m m' : Nat} {MC : cM} {MR : rM} (h : eG3 m MC MR) (hm : m ≤ m') : eG3 m' MC MR := by
  obtain ⟨g1, g2, g3, g4, g5, g6, g7, g8, g9⟩ := h
  exact ⟨g1, g2, g3, g4, g5, g6, fun b hb h => g7 b hb (by omega), g8, g9⟩
theorem eG6_mono {m m' : Nat} {MC : cM} {MR : rM} (h : eG6 m MC MR) (hm : m ≤ m') : eG6 m' MC MR := by
  obtain ⟨f, h1, h2, h3, h4⟩ := h
  refine ⟨f, h1, h2, h3, fun i hi => ?_⟩
  obtain ⟨a1, a2, a3, a4, a5, ⟨p, a, b, b1, b2, b3, b4⟩, a7⟩ := h4 i hi
  exact ⟨a1, a2, a3, a4, a5, ⟨p, a, b, by omega, by omega, by omega, b4⟩, a7⟩
theorem o_box {n : Nat} {MC : cM} {MR : rM} (h : eRel n MC MR) (x1 x2 : Int32) : eO n (m11_box x1 x2 MC) (m12_box x1 x2 MR) := by
  obtain ⟨m, t, hm, ht, g0, g1, g2, g3, g4, g5, g6, g7, g8, g9⟩ := h
  unfold m11_box m12_box
  rcases (Classical.em ((0 : Int32) ≤ x1 ∧ x1 ≤ 1)).symm with h1 | h1
  · simp only [out_y h1, in_n h1, zbd_s, zbv_s, zgd_t, Bool.and_true, Bool.true_and, Bool.and_self, if_true, if_false, e_01, eq_self, Bool.false_eq_true]
    exact eO_same ⟨m, t, hm, ht, g0, g1, g2, g3, g4, g5, g6, g7, g8, g9⟩
  simp only [out_n h1.1 h1.2, in_y h1.1 h1.2, zbd_s, zbv_s, zgd_t, Bool.and_true, Bool.true_and, Bool.and_self, if_true, if_false, e_01, eq_self, Bool.false_eq_true]
  rcases (Classical.em ((0 : Int32) ≤ x2 ∧ x2 ≤ 30000)).symm with h2 | h2
  · simp only [out_y h2, in_n h2, zbd_s, zbv_s, zgd_t, Bool.and_true, Bool.true_and, Bool.and_self, if_true, if_false, e_01, eq_self, Bool.false_eq_true]
    exact eO_same ⟨m, t, hm, ht, g0, g1, g2, g3, g4, g5, g6, g7, g8, g9⟩
  simp only [out_n h2.1 h2.2, in_y h2.1 h2.2, zbd_s, zbv_s, zgd_t, Bool.and_true, Bool.true_and, Bool.and_self, if_true, if_false, e_01, eq_self, Bool.false_eq_true]
  by_cases hf : m = 10
  · subst hf
    simp only [m3_add, g0.1, g0.2.1, show (nI 10 < 10) = False from eq_false (by decide), show (nI 10 = 10) = True from eq_true rfl, zbd_s, zbv_s, zgd_t, Bool.and_true, Bool.true_and, Bool.and_self, if_true, if_false, e_01, eq_self, Bool.false_eq_true]
    exact eO_same ⟨10, t, hm, ht, g0, g1, g2, g3, g4, g5, g6, g7, g8, g9⟩
  have hm10 : m < 10 := by omega
  have e10 : (nI m < 10) = True := eq_true (by rw [show (10 : Int32) = nI 10 from rfl, eI_lt (by omega) (by omega)]; exact hm10)
  have e10' : (nI m = 10) = False := eq_false (by rw [show (10 : Int32) = nI 10 from rfl, eI_inj (by omega) (by omega)]; omega)
  simp only [m3_add, m12_box_92, g0.1, g0.2.1, e10, e10', ezin_nI (show m < 10 by omega) (show 10 < 2 ^ 31 by decide), ex_nI (show m < 2 ^ 31 by omega), blt_t hm10, zbd_s, zbv_s, zgd_t, Bool.and_true, Bool.true_and, Bool.and_self, if_true, if_false, e_01, eq_self, Bool.false_eq_true]
  have hb0 : cg (cs (cs (cs MC 2 m 1 x1) 2 m 2 x2) 3 0 4 (cg (cs (cs MC 2 m 1 x1) 2 m 2 x2) 3 0 4 + 1)) 2 m 0 = nI m := by
    simp [cg_cs]; exact (g1.1 m hm10).1
  have hC : cg (cs (cs MC 2 m 1 x1) 2 m 2 x2) 3 0 4 = nI m := g0.1
  have hR : rg (rs (rs (rs (rs (rs (rs MR 1301 0 m x1) 1302 0 m x2) 1303 0 m 1) 1304 0 m 1) 1308 0 m (-1)) 1309 0 m (-1)) 12 0 0 = nI m := g0.2.1
  rw [hC] at hb0
  rw [hC, hR, hb0, ep1]
  have fC : eF [10201, 10202, 10304] MC (cs (cs (cs MC 2 m 1 x1) 2 m 2 x2) 3 0 4 (nI (m + 1))) := (by repeat (first | exact eF_refl | refine eF_cs ?_ rfl))
  have fR : eH [1301, 1302, 1303, 1304, 1308, 1309, 11200] MR (rs (rs (rs (rs (rs (rs (rs MR 1301 0 m x1) 1302 0 m x2) 1303 0 m 1) 1304 0 m 1) 1308 0 m (-1)) 1309 0 m (-1)) 12 0 0 (nI (m + 1))) := (by repeat (first | exact eH_refl | refine eH_rs ?_ rfl | refine eH_rsl ?_))
  refine eO_fin rfl ⟨m + 1, t, by omega, ht, ?_, ?_, ?_, eG3_mono (eG3_fr g3 fC fR (fun _ _ => rfl) rfl rfl) (by omega), eG4_fr g4 fC fR rfl rfl, eG5_fr g5 fC fR rfl rfl, eG6_mono (eG6_fr g6 fC fR rfl rfl) (by omega), ?_, eG8_fr g8 fC fR ⟨rfl, rfl⟩ rfl rfl, eG9_fr g9 fC fR rfl rfl⟩
  · obtain ⟨a1, a2, a3, a4, a5⟩ := g0
    exact ⟨rfl, rfl, a3, a4, a5⟩
  · obtain ⟨a1, a2, a3, a4⟩ := g1
    unfold eG1
    simp only [cg_cs, rg_rs]
    have e1 : x1 = x1 := rfl
    refine ⟨fun b hb => ?_, fun b j hb hj => ?_, fun b hb => ?_, fun b hb hb' => ?_⟩
    · have := a1 b hb
      by_cases hbm : b = m
      · subst hbm
        simp
        obtain ⟨c1, c2, c3, c4, c5, ⟨c6, c7⟩, c8⟩ := this
        exact ⟨c1, h2, c4, c5, ⟨c6, fun j hj => c7 j (by omega)⟩, c8⟩
      · simp [hbm]
        obtain ⟨c1, c2, c3, c4, c5, ⟨c6, c7⟩, c8⟩ := this
        exact ⟨c1, c2, c3, c4, c5, ⟨c6, fun j hj => c7 j (by omega)⟩, c8⟩
    · simpa using a2 b j hb hj
    · by_cases hbm : b = m
      · subst hbm
        have := a4 b hm10 (Nat.le_refl _)
        simp [this]
      · have := a3 b (by omega)
        simp [hbm]; simpa using this
    · have := a4 b hb (by omega)
      simpa using this
  · obtain ⟨a1, a2⟩ := g2
    unfold eG2
    simp only [cg_cs, rg_rs]
    refine ⟨fun b hb => ?_, by grind⟩
    by_cases hbm : b = m
    · subst hbm
      have := a2 b hm10 (Nat.le_refl _)
      simp [this]
    · have := a1 b (by omega)
      obtain ⟨c1, c2, c3⟩ := this
      simp only [hbm, and_false, if_false, and_self]
      simp [c1, c2]
      rcases c3 with c3 | ⟨d1, d2, d3, p, p1, p2, p3⟩
      · exact .inl c3
      · exact .inr ⟨d1, d2, d3, p, by omega, p2, p3⟩
  · obtain ⟨⟨pn, ps, q1, q2⟩, q3, q4⟩ := eG7_fr g7 fC fR rfl rfl
    exact ⟨⟨pn, ps, by omega, q2⟩, fun b hb => ⟨(q3 b hb).1, (q3 b hb).2.1, fun h => (q3 b hb).2.2 (by omega)⟩, q4⟩
theorem maySet_e {j : Nat} (hj : j < 7) (x : Int32) (M : cM) : m3_maySet (nI j) x M = some (if zsv 0 j ≤ x ∧ x ≤ zsv 1 j then 1 else 0, M) := by
  unfold m3_maySet
  rw [if_neg, if_pos]
  · simp only [ezin_nI (show j < 7 by omega) (show 7 < 2 ^ 31 by decide), ex_nI (show j < 2 ^ 31 by omega), zbd_s, zbv_s, zgd_t, Bool.and_true, Bool.true_and, Bool.and_self, if_true, if_false, e_01, eq_self, Bool.false_eq_true]
    by_cases h1 : x < zsv 0 j
    · simp [h1, Int32.not_le.mpr h1]
    · by_cases h2 : zsv 1 j < x
      · simp [h1, h2, Int32.not_le.mpr h2]
      · simp [h1, h2, Int32.not_lt.mp h1, Int32.not_lt.mp h2]
  · rw [show (7 : Int32) = nI 7 from rfl, eI_lt (by omega) (by omega)]; omega
  · rw [show (0 : Int32) = nI 0 from rfl, eI_lt (by omega) (by omega)]; omega
theorem setting_e {j : Nat} (hj : j < 7) (M : cM) : m3_setting (nI j) M = some (cg M 401 0 j, M) := by
  unfold m3_setting
  rw [if_neg, if_neg]
  · simp only [ezin_nI (show j < 7 by omega) (show 7 < 2 ^ 31 by decide), ex_nI (show j < 2 ^ 31 by omega), zbd_s, zbv_s, zgd_t, Bool.and_true, Bool.true_and, Bool.and_self, if_true, if_false, e_01, eq_self, Bool.false_eq_true]
  · rw [show (7 : Int32) = nI 7 from rfl, eI_le (by omega) (by omega)]; omega
  · rw [show (0 : Int32) = nI 0 from rfl, eI_lt (by omega) (by omega)]; omega
theorem set_e {j : Nat} (hj : j < 7) (x : Int32) (M : rM) : m12_set (nI j) x M = if zsv 0 j ≤ x ∧ x ≤ zsv 1 j then some (rg M 1312 0 j, rs M 1312 0 j x) else some (-3, M) := by
  have key : ∀ lo hi : Int32, m12_set_51 (nI j) x x lo hi M = if lo ≤ x ∧ x ≤ hi then some (rg M 1312 0 j, rs M 1312 0 j x) else some (-3, M) := by
    intro lo hi
    unfold m12_set_51
    by_cases h : lo ≤ x ∧ x ≤ hi
    · simp only [in_y h.1 h.2, ezin_nI (show j < 7 by omega) (show 7 < 2 ^ 31 by decide), ex_nI (show j < 2 ^ 31 by omega), zbd_s, zbv_s, zgd_t, Bool.and_true, Bool.true_and, Bool.and_self, if_true, if_false, e_01, eq_self, Bool.false_eq_true]
      simp [h]
    · simp only [in_n h, h, zbd_s, zbv_s, zgd_t, Bool.and_true, Bool.true_and, Bool.and_self, if_true, if_false, e_01, eq_self, Bool.false_eq_true]
  unfold m12_set
  rw [in_y (by rw [show (0 : Int32) = nI 0 from rfl, eI_le (by omega) (by omega)]; omega) (by rw [show (6 : Int32) = nI 6 from rfl, eI_le (by omega) (by omega)]; omega)]
  simp only [m12_set_21, key, zbd_s, zbv_s, zgd_t, Bool.and_true, Bool.true_and, Bool.and_self, if_true, if_false, e_01, eq_self, Bool.false_eq_true]
  have hc : j = 0 ∨ j = 1 ∨ j = 2 ∨ j = 3 ∨ j = 4 ∨ j = 5 ∨ j = 6 := by omega
  rcases hc with h | h | h | h | h | h | h <;> subst h <;> rfl
theorem o_set {n : Nat} {MC : cM} {MR : rM} (h : eRel n MC MR) (x1 x2 : Int32) : eO n (m11_set x1 x2 MC) (m12_set x1 x2 MR) := by
  obtain ⟨m, t, hm, ht, g0, g1, g2, g3, g4, g5, g6, g7, g8, g9⟩ := h
  rcases (Classical.em ((0 : Int32) ≤ x1 ∧ x1 ≤ 6)).symm with h1 | h1
  · have e1 : m3_maySet x1 x2 MC = some (0, MC) := by
      unfold m3_maySet
      by_cases c1 : x1 < 0
      · simp [c1]
      · have c2 : ¬ x1 < 7 := by lia
        simp [c1, c2]
    unfold m11_set m12_set
    simp only [e1, in_n h1, zbd_s, zbv_s, zgd_t, Bool.and_true, Bool.true_and, Bool.and_self, if_true, if_false, e_01, eq_self, Bool.false_eq_true]
    exact eO_same ⟨m, t, hm, ht, g0, g1, g2, g3, g4, g5, g6, g7, g8, g9⟩
  obtain ⟨j, hj, rfl⟩ := eI_ofl (b := 6) h1.1 h1.2 (by decide)
  have hj7 : j < 7 := by omega
  rw [set_e hj7]
  unfold m11_set m3_change
  by_cases h2 : zsv 0 j ≤ x2 ∧ x2 ≤ zsv 1 j
  · simp only [maySet_e hj7, setting_e hj7, h2, ezin_nI (show j < 7 by omega) (show 7 < 2 ^ 31 by decide), ex_nI (show j < 2 ^ 31 by omega), zbd_s, zbv_s, zgd_t, Bool.and_true, Bool.true_and, Bool.and_self, if_true, if_false, e_01, eq_self, Bool.false_eq_true]
    simp only [and_self, if_true, e_01, if_false, zbd_s, zbv_s]
    refine eO_fin (g0.2.2.2.2 j hj7).1 ⟨m, t, hm, ht, ?_, eG1_fr g1 (K := [401]) (K' := [1312]) (by repeat (first | exact eF_refl | refine eF_cs ?_ rfl)) (by repeat (first | exact eH_refl | refine eH_rs ?_ rfl | refine eH_rsl ?_)) rfl rfl, eG2_fr g2 (K := [401]) (K' := [1312]) (by repeat (first | exact eF_refl | refine eF_cs ?_ rfl)) (by repeat (first | exact eH_refl | refine eH_rs ?_ rfl | refine eH_rsl ?_)) rfl rfl, eG3_fr g3 (K := [401]) (K' := [1312]) (by repeat (first | exact eF_refl | refine eF_cs ?_ rfl)) (by repeat (first | exact eH_refl | refine eH_rs ?_ rfl | refine eH_rsl ?_)) (fun _ _ => rfl) rfl rfl, eG4_fr g4 (K := [401]) (K' := [1312]) (by repeat (first | exact eF_refl | refine eF_cs ?_ rfl)) (by repeat (first | exact eH_refl | refine eH_rs ?_ rfl | refine eH_rsl ?_)) rfl rfl, eG5_fr g5 (K := [401]) (K' := [1312]) (by repeat (first | exact eF_refl | refine eF_cs ?_ rfl)) (by repeat (first | exact eH_refl | refine eH_rs ?_ rfl | refine eH_rsl ?_)) rfl rfl, eG6_fr g6 (K := [401]) (K' := [1312]) (by repeat (first | exact eF_refl | refine eF_cs ?_ rfl)) (by repeat (first | exact eH_refl | refine eH_rs ?_ rfl | refine eH_rsl ?_)) rfl rfl, eG7_mono (eG7_fr g7 (K := [401]) (K' := [1312]) (by repeat (first | exact eF_refl | refine eF_cs ?_ rfl)) (by repeat (first | exact eH_refl | refine eH_rs ?_ rfl | refine eH_rsl ?_)) rfl rfl) (Nat.le_succ n), eG8_fr g8 (K := [401]) (K' := [1312]) (by repeat (first | exact eF_refl | refine eF_cs ?_ rfl)) (by repeat (first | exact eH_refl | refine eH_rs ?_ rfl | refine eH_rsl ?_)) ⟨rfl, rfl⟩ rfl rfl, eG9_fr g9 (K := [401]) (K' := [1312]) (by repeat (first | exact eF_refl | refine eF_cs ?_ rfl)) (by repeat (first | exact eH_refl | refine eH_rs ?_ rfl | refine eH_rsl ?_)) rfl rfl⟩
    obtain ⟨a1, a2, a3, a4, a5⟩ := g0
    refine ⟨a1, a2, a3, a4, fun i hi => ?_⟩
    have h0 : ∀ k, k < 7 → 0 ≤ zsv 0 k := by decide
    have := a5 i hi
    have := h0 j hj7
    simp only [cg_cs, rg_rs]
    grind
  · simp only [maySet_e hj7, h2, zbd_s, zbv_s, zgd_t, Bool.and_true, Bool.true_and, Bool.and_self, if_true, if_false, e_01, eq_self, Bool.false_eq_true]
    exact eO_same ⟨m, t, hm, ht, g0, g1, g2, g3, g4, g5, g6, g7, g8, g9⟩
theorem o_fact {n : Nat} {MC : cM} {MR : rM} (h : eRel n MC MR) (x1 x2 x3 x4 x5 : Int32) : eO n (m11_fact x1 x2 x3 x4 x5 MC) (m12_fact x1 x2 x3 x4 x5 MR) := by
  obtain ⟨m, t, hm, ht, g0, g1, g2, g3, g4, g5, g6, g7, g8, g9⟩ := h
  unfold m11_fact m12_fact
  rcases e_bx x1 m hm with hb | ⟨b, hb, rfl⟩
  · simp only [kn_n g0.1 hb, ib_n g0.2.1 hm hb, zbd_s, zbv_s, zgd_t, Bool.and_true, Bool.true_and, Bool.and_self, if_true, if_false, e_01, eq_self, Bool.false_eq_true]
    exact eO_same ⟨m, t, hm, ht, g0, g1, g2, g3, g4, g5, g6, g7, g8, g9⟩
  have hb10 : b < 10 := by omega
  simp only [kn_y g0.1 hm hb, ib_y g0.2.1 hm hb, of_y hb10, blt_t hb10, ezin_nI hb10 (show 10 < 2 ^ 31 by decide), ex_nI (show b < 2 ^ 31 by omega), zbd_s, zbv_s, zgd_t, Bool.and_true, Bool.true_and, Bool.and_self, if_true, if_false, e_01, eq_self, Bool.false_eq_true]
  rcases e_bx x2 m hm with hc | ⟨c, hc, rfl⟩
  · simp only [kn_n g0.1 hc, ib_n g0.2.1 hm hc, zbd_s, zbv_s, zgd_t, Bool.and_true, Bool.true_and, Bool.and_self, if_true, if_false, e_01, eq_self, Bool.false_eq_true]
    exact eO_same ⟨m, t, hm, ht, g0, g1, g2, g3, g4, g5, g6, g7, g8, g9⟩
  simp only [kn_y g0.1 hm hc, ib_y g0.2.1 hm hc, zbd_s, zbv_s, zgd_t, Bool.and_true, Bool.true_and, Bool.and_self, if_true, if_false, e_01, eq_self, Bool.false_eq_true]
  rcases e_bx x3 m hm with hd | ⟨d, hd, rfl⟩
  · simp only [kn_n g0.1 hd, ib_n g0.2.1 hm hd, zbd_s, zbv_s, zgd_t, Bool.and_true, Bool.true_and, Bool.and_self, if_true, if_false, e_01, eq_self, Bool.false_eq_true]
    exact eO_same ⟨m, t, hm, ht, g0, g1, g2, g3, g4, g5, g6, g7, g8, g9⟩
  simp only [kn_y g0.1 hm hd, ib_y g0.2.1 hm hd, eI_inj (show c < 2 ^ 31 by omega) (show d < 2 ^ 31 by omega), zbd_s, zbv_s, zgd_t, Bool.and_true, Bool.true_and, Bool.and_self, if_true, if_false, e_01, eq_self, Bool.false_eq_true]
  by_cases hcd : c = d
  · simp only [hcd, if_true]
    exact eO_same ⟨m, t, hm, ht, g0, g1, g2, g3, g4, g5, g6, g7, g8, g9⟩
  simp only [hcd, if_false]
  rcases (Classical.em ((-999 : Int32) ≤ x4 ∧ x4 ≤ 999)).symm with h4 | h4
  · simp only [out_y h4, in_n h4, zbd_s, zbv_s, zgd_t, Bool.and_true, Bool.true_and, Bool.and_self, if_true, if_false, e_01, eq_self, Bool.false_eq_true]
    exact eO_same ⟨m, t, hm, ht, g0, g1, g2, g3, g4, g5, g6, g7, g8, g9⟩
  simp only [out_n h4.1 h4.2, in_y h4.1 h4.2, zbd_s, zbv_s, zgd_t, Bool.and_true, Bool.true_and, Bool.and_self, if_true, if_false, e_01, eq_self, Bool.false_eq_true]
  rcases (Classical.em ((x4 : Int32) ≤ x5 ∧ x5 ≤ 999)).symm with h5 | h5
  · simp only [in_n h5, zbd_s, zbv_s, zgd_t, Bool.and_true, Bool.true_and, Bool.and_self, if_true, if_false, e_01, eq_self, Bool.false_eq_true]
    rcases (Classical.em ((-999 : Int32) ≤ x5 ∧ x5 ≤ 999)).symm with h6 | h6
    · simp only [out_y h6, zbd_s, zbv_s, zgd_t, Bool.and_true, Bool.true_and, Bool.and_self, if_true, if_false, e_01, eq_self, Bool.false_eq_true]
      exact eO_same ⟨m, t, hm, ht, g0, g1, g2, g3, g4, g5, g6, g7, g8, g9⟩
    · have h7 : ¬ x4 ≤ x5 := fun h => h5 ⟨h, h6.2⟩
      simp only [out_n h6.1 h6.2, h7, zbd_s, zbv_s, zgd_t, Bool.and_true, Bool.true_and, Bool.and_self, if_true, if_false, e_01, eq_self, Bool.false_eq_true]
      exact eO_same ⟨m, t, hm, ht, g0, g1, g2, g3, g4, g5, g6, g7, g8, g9⟩
  simp only [in_y h5.1 h5.2, out_n (show (-999 : Int32) ≤ x5 by lia) h5.2, h5.1, zbd_s, zbv_s, zgd_t, Bool.and_true, Bool.true_and, Bool.and_self, if_true, if_false, e_01, eq_self, Bool.false_eq_true]
  obtain ⟨f, f1, f2, f3, f4⟩ := g6
  by_cases hf : f = 20
  · subst hf
    simp only [m1_addFact, f2, f3, show (nI 20 < 20) = False from eq_false (by decide), show (nI 20 = 20) = True from eq_true rfl, zbd_s, zbv_s, zgd_t, Bool.and_true, Bool.true_and, Bool.and_self, if_true, if_false, e_01, eq_self, Bool.false_eq_true]
    refine eO_same ⟨m, t, hm, ht, g0, g1, g2, g3, g4, g5, ⟨20, f1, f2, f3, f4⟩, g7, g8, g9⟩
  have hf20 : f < 20 := by omega
  have e20 : (nI f < 20) = True := eq_true (by rw [show (20 : Int32) = nI 20 from rfl, eI_lt (by omega) (by omega)]; exact hf20)
  have e20' : (nI f = 20) = False := eq_false (by rw [show (20 : Int32) = nI 20 from rfl, eI_inj (by omega) (by omega)]; omega)
  have hC : ∀ k v, k ≠ 1 → ∀ M : cM, cg M 1 0 6 = nI f → cg (cs M k 0 (nx (nI f)) v) 1 0 6 = nI f := by
    intro k v hk M hM; rw [cg_cs, if_neg (fun h => hk h.1.symm)]; exact hM
  have hR : ∀ k v, k ≠ 12 → ∀ M : rM, rg M 12 0 51 = nI f → rg (rs M k 0 (nx (nI f)) v) 12 0 51 = nI f := by
    intro k v hk M hM; rw [rg_rs, if_neg (fun h => hk h.1.symm)]; exact hM
  simp only [m1_addFact, m1_addFact_53, m12_fact_115, cg_cs, rg_rs, f2, f3, e20, e20', ezin_nI (show f < 20 by omega) (show 20 < 2 ^ 31 by decide), ex_nI (show f < 2 ^ 31 by omega), show ((1 : Nat) = 201) = False from eq_false (by decide), show ((1 : Nat) = 202) = False from eq_false (by decide), show ((1 : Nat) = 203) = False from eq_false (by decide), show ((1 : Nat) = 204) = False from eq_false (by decide), show ((1 : Nat) = 205) = False from eq_false (by decide), show ((12 : Nat) = 1352) = False from eq_false (by decide), show ((12 : Nat) = 1353) = False from eq_false (by decide), show ((12 : Nat) = 1354) = False from eq_false (by decide), show ((12 : Nat) = 1355) = False from eq_false (by decide), show ((12 : Nat) = 1356) = False from eq_false (by decide), false_and, and_self, ep1, zbd_s, zbv_s, zgd_t, Bool.and_true, Bool.true_and, Bool.and_self, if_true, if_false, e_01, eq_self, Bool.false_eq_true]
  refine eO_fin rfl ⟨m, t, hm, ht, ?_⟩
  have fC : eF [201, 202, 203, 204, 205, 10106] MC (cs (cs (cs (cs (cs (cs MC 201 0 f (nI b)) 202 0 f (nI c)) 203 0 f (nI d)) 204 0 f x4) 205 0 f x5) 1 0 6 (nI (f + 1))) := (by repeat (first | exact eF_refl | refine eF_cs ?_ rfl))
  have fR : eH [1352, 1353, 1354, 1355, 1356, 11251] MR (rs (rs (rs (rs (rs (rs MR 1352 0 f (nI b)) 1353 0 f (nI c)) 1354 0 f (nI d)) 1355 0 f x4) 1356 0 f x5) 12 0 51 (nI (f + 1))) := (by repeat (first | exact eH_refl | refine eH_rs ?_ rfl | refine eH_rsl ?_))
  refine ⟨eG0_fr g0 fC fR rfl rfl, eG1_fr g1 fC fR rfl rfl, eG2_fr g2 fC fR rfl rfl, eG3_fr g3 fC fR (fun _ _ => rfl) rfl rfl, eG4_fr g4 fC fR rfl rfl, eG5_fr g5 fC fR rfl rfl, ?_, eG7_mono (eG7_fr g7 fC fR rfl rfl) (by omega), eG8_fr g8 fC fR ⟨rfl, rfl⟩ rfl rfl, eG9_fr g9 fC fR rfl rfl⟩
  refine ⟨f + 1, by omega, rfl, rfl, fun i hi => ?_⟩
  by_cases hif : i = f
  · subst hif
    simp only [cg_cs, rg_rs]
    simp
    exact ⟨⟨b, hb, c, hc, d, hd, hcd, rfl, rfl, rfl⟩, by lia, h5.1, h5.2⟩
  · have := f4 i (by omega)
    simp only [cg_cs, rg_rs]
    simp [hif]
    simpa using this
