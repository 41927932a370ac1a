theorem sp_y {k : Nat} (hk : k < 6) (M : cM) : m4_hasSpot (nI k) M = some (1, M) := by
  unfold m4_hasSpot
  rw [if_neg, if_neg]
  · rw [show (6 : Int32) = nI 6 from rfl, eI_le (by omega) (by omega)]; omega
  · rw [show (0 : Int32) = nI 0 from rfl, eI_lt (by omega) (by omega)]; omega
theorem sp_n {x : Int32} (h : ¬ (0 ≤ x ∧ x ≤ 5)) (M : cM) : m4_hasSpot x M = some (0, M) := by
  unfold m4_hasSpot
  by_cases h1 : x < 0
  · simp [h1]
  · have h2 : 6 ≤ x := by lia
    simp [h1, h2]
theorem er_y {k : Nat} (hk : k < 6) (M : cM) : m4_hasEar (nI k) M = some (1, M) := sp_y hk M
theorem er_n {x : Int32} (h : ¬ (0 ≤ x ∧ x ≤ 5)) (M : cM) : m4_hasEar x M = some (0, M) := sp_n h M
theorem tk_y {d k : Nat} {M : cM} (h : cg M 4 0 1 = nI d) (hd : d ≤ 5) (hk : k < d) : m4_hasTick (nI k) M = some (1, M) := by
  unfold m4_hasTick
  rw [h, if_neg, if_neg]
  · rw [eI_le (by omega) (by omega)]; omega
  · rw [show (0 : Int32) = nI 0 from rfl, eI_lt (by omega) (by omega)]; omega
theorem tk_n {d : Nat} {x : Int32} {M : cM} (h : cg M 4 0 1 = nI d) (hx : ¬ (0 ≤ x ∧ x < nI d)) : m4_hasTick x M = some (0, M) := by
  unfold m4_hasTick
  rw [h]
  by_cases h1 : x < 0
  · simp [h1]
  · have h2 : nI d ≤ x := Int32.not_lt.mp (fun hc => hx ⟨Int32.not_lt.mp h1, hc⟩)
    simp [h1, h2]
theorem isp_y {k : Nat} (hk : k < 6) (M : rM) : m12_isSpot (nI k) M = some (1, M) := by
  unfold m12_isSpot
  rw [in_y]
  · rfl
  · rw [show (0 : Int32) = nI 0 from rfl, eI_le (by omega) (by omega)]; omega
  · rw [show (5 : Int32) = nI 5 from rfl, eI_le (by omega) (by omega)]; omega
theorem isp_n {x : Int32} (h : ¬ (0 ≤ x ∧ x ≤ 5)) (M : rM) : m12_isSpot x M = some (0, M) := by
  unfold m12_isSpot; rw [in_n h]; rfl
theorem idy_y {d k : Nat} {M : rM} (h : rg M 12 0 67 = nI d) (hd : d ≤ 5) (hk : k < d) : m12_isDay (nI k) M = some (1, M) := by
  unfold m12_isDay
  have e : nI d - (1 : Int32) = nI (d - 1) := by
    obtain ⟨k, rfl⟩ : ∃ k, d = k + 1 := ⟨d - 1, by omega⟩
    rw [← eI_add]
    exact Int32.add_sub_cancel _ _
  rw [h, e, in_y]
  · rfl
  · rw [show (0 : Int32) = nI 0 from rfl, eI_le (by omega) (by omega)]; omega
  · rw [eI_le (by omega) (by omega)]; omega
theorem idy_n {d : Nat} {x : Int32} {M : rM} (h : rg M 12 0 67 = nI d) (hd : d ≤ 5) (hx : ¬ (0 ≤ x ∧ x < nI d)) : m12_isDay x M = some (0, M) := by
  unfold m12_isDay
  rw [h, in_n]
  · rfl
  · rintro ⟨a1, a2⟩
    refine hx ⟨a1, ?_⟩
    have hm' : nI d ≤ 5 := by rw [show (5 : Int32) = nI 5 from rfl, eI_le (by omega) (by omega)]; exact hd
    have hm0 : 0 ≤ nI d := by rw [show (0 : Int32) = nI 0 from rfl, eI_le (by omega) (by omega)]; omega
    lia
theorem e_sp (x : Int32) : (¬ (0 ≤ x ∧ x ≤ 5)) ∨ ∃ k, k < 6 ∧ x = nI k := by
  by_cases h : 0 ≤ x ∧ x ≤ 5
  · obtain ⟨k, hk, e⟩ := eI_ofl (b := 5) h.1 h.2 (by decide)
    exact .inr ⟨k, by omega, e⟩
  · exact .inl h
theorem o_ear {n : Nat} {MC : cM} {MR : rM} (h : eRel n MC MR) (x1 x2 : Int32) : eO n (m11_ear x1 x2 MC) (m12_ear x1 x2 MR) := by
  obtain ⟨m, t, hm, ht, g0, g1, g2, g3, g4, g5, g6, g7, g8, g9⟩ := h
  unfold m11_ear m12_ear
  rcases e_sp x1 with h1 | ⟨e, he, rfl⟩
  · simp only [er_n h1, in_n h1, zbd_s, zbv_s, zgd_t, Bool.and_true, Bool.true_and, Bool.and_self, if_true, if_false, e_01, eq_self, Bool.false_eq_true]
    exact eO_same ⟨m, t, hm, ht, g0, g1, g2, g3, g4, g5, g6, g7, g8, g9⟩
  simp only [er_y he, in_y (show (0 : Int32) ≤ nI e by rw [show (0 : Int32) = nI 0 from rfl, eI_le (by omega) (by omega)]; omega) (show nI e ≤ 5 by rw [show (5 : Int32) = nI 5 from rfl, eI_le (by omega) (by omega)]; omega), ezin_nI (show e < 6 by omega) (show 6 < 2 ^ 31 by decide), ex_nI (show e < 2 ^ 31 by omega), zbd_s, zbv_s, zgd_t, Bool.and_true, Bool.true_and, Bool.and_self, if_true, if_false, e_01, eq_self, Bool.false_eq_true]
  rcases (Classical.em ((0 : Int32) ≤ x2 ∧ x2 ≤ 63)).symm with h2 | h2
  · simp only [out_y h2, in_n h2, zbd_s, zbv_s, zgd_t, Bool.and_true, Bool.true_and, Bool.and_self, if_true, if_false, e_01, eq_self, Bool.false_eq_true]
    exact eO_same ⟨m, t, hm, ht, g0, g1, g2, g3, g4, g5, g6, g7, g8, g9⟩
  simp only [out_n h2.1 h2.2, in_y h2.1 h2.2, zbd_s, zbv_s, zgd_t, Bool.and_true, Bool.true_and, Bool.and_self, if_true, if_false, e_01, eq_self, Bool.false_eq_true]
  refine eO_fin (g8.2.2.1 e he).1 ⟨m, t, hm, ht, eG0_fr g0 (K := [503]) (K' := [1369]) (by repeat (first | exact eF_refl | refine eF_cs ?_ rfl)) (by repeat (first | exact eH_refl | refine eH_rs ?_ rfl | refine eH_rsl ?_)) rfl rfl, eG1_fr g1 (K := [503]) (K' := [1369]) (by repeat (first | exact eF_refl | refine eF_cs ?_ rfl)) (by repeat (first | exact eH_refl | refine eH_rs ?_ rfl | refine eH_rsl ?_)) rfl rfl, eG2_fr g2 (K := [503]) (K' := [1369]) (by repeat (first | exact eF_refl | refine eF_cs ?_ rfl)) (by repeat (first | exact eH_refl | refine eH_rs ?_ rfl | refine eH_rsl ?_)) rfl rfl, eG3_fr g3 (K := [503]) (K' := [1369]) (by repeat (first | exact eF_refl | refine eF_cs ?_ rfl)) (by repeat (first | exact eH_refl | refine eH_rs ?_ rfl | refine eH_rsl ?_)) (fun _ _ => rfl) rfl rfl, eG4_fr g4 (K := [503]) (K' := [1369]) (by repeat (first | exact eF_refl | refine eF_cs ?_ rfl)) (by repeat (first | exact eH_refl | refine eH_rs ?_ rfl | refine eH_rsl ?_)) rfl rfl, eG5_fr g5 (K := [503]) (K' := [1369]) (by repeat (first | exact eF_refl | refine eF_cs ?_ rfl)) (by repeat (first | exact eH_refl | refine eH_rs ?_ rfl | refine eH_rsl ?_)) rfl rfl, eG6_fr g6 (K := [503]) (K' := [1369]) (by repeat (first | exact eF_refl | refine eF_cs ?_ rfl)) (by repeat (first | exact eH_refl | refine eH_rs ?_ rfl | refine eH_rsl ?_)) rfl rfl, eG7_mono (eG7_fr g7 (K := [503]) (K' := [1369]) (by repeat (first | exact eF_refl | refine eF_cs ?_ rfl)) (by repeat (first | exact eH_refl | refine eH_rs ?_ rfl | refine eH_rsl ?_)) rfl rfl) (Nat.le_succ n), ?_, eG9_fr g9 (K := [503]) (K' := [1369]) (by repeat (first | exact eF_refl | refine eF_cs ?_ rfl)) (by repeat (first | exact eH_refl | refine eH_rs ?_ rfl | refine eH_rsl ?_)) rfl rfl⟩
  unfold eG8 at *
  simp only [cg_cs, rg_rs, cp_cs]
  obtain ⟨a1, a2, a3, a4⟩ := g8
  refine ⟨by simpa using a1, by simpa using a2, fun j hj => ?_, by simpa using a4⟩
  have := a3 j hj
  by_cases hje : j = e
  · subst hje; simp; exact h2
  · simp [hje]; exact this
theorem o_liars {n : Nat} {MC : cM} {MR : rM} (h : eRel n MC MR) (x1 : Int32) : eO n (m11_liars x1 MC) (m12_liars x1 MR) := by
  obtain ⟨m, t, hm, ht, g0, g1, g2, g3, g4, g5, g6, g7, g8, g9⟩ := h
  unfold m11_liars m12_liars
  rcases (Classical.em ((0 : Int32) ≤ x1 ∧ x1 ≤ 63)).symm with h2 | h2
  · simp only [out_y h2, in_n h2, zbd_s, zbv_s, zgd_t, Bool.and_true, Bool.true_and, Bool.and_self, if_true, if_false, e_01, eq_self, Bool.false_eq_true]
    exact eO_same ⟨m, t, hm, ht, g0, g1, g2, g3, g4, g5, g6, g7, g8, g9⟩
  simp only [out_n h2.1 h2.2, in_y h2.1 h2.2, zbd_s, zbv_s, zgd_t, Bool.and_true, Bool.true_and, Bool.and_self, if_true, if_false, e_01, eq_self, Bool.false_eq_true]
  refine eO_fin g8.2.1.1 ⟨m, t, hm, ht, eG0_fr g0 (K := [10402]) (K' := [11271]) (by repeat (first | exact eF_refl | refine eF_cs ?_ rfl)) (by repeat (first | exact eH_refl | refine eH_rs ?_ rfl | refine eH_rsl ?_)) rfl rfl, eG1_fr g1 (K := [10402]) (K' := [11271]) (by repeat (first | exact eF_refl | refine eF_cs ?_ rfl)) (by repeat (first | exact eH_refl | refine eH_rs ?_ rfl | refine eH_rsl ?_)) rfl rfl, eG2_fr g2 (K := [10402]) (K' := [11271]) (by repeat (first | exact eF_refl | refine eF_cs ?_ rfl)) (by repeat (first | exact eH_refl | refine eH_rs ?_ rfl | refine eH_rsl ?_)) rfl rfl, eG3_fr g3 (K := [10402]) (K' := [11271]) (by repeat (first | exact eF_refl | refine eF_cs ?_ rfl)) (by repeat (first | exact eH_refl | refine eH_rs ?_ rfl | refine eH_rsl ?_)) (fun _ _ => rfl) rfl rfl, eG4_fr g4 (K := [10402]) (K' := [11271]) (by repeat (first | exact eF_refl | refine eF_cs ?_ rfl)) (by repeat (first | exact eH_refl | refine eH_rs ?_ rfl | refine eH_rsl ?_)) rfl rfl, eG5_fr g5 (K := [10402]) (K' := [11271]) (by repeat (first | exact eF_refl | refine eF_cs ?_ rfl)) (by repeat (first | exact eH_refl | refine eH_rs ?_ rfl | refine eH_rsl ?_)) rfl rfl, eG6_fr g6 (K := [10402]) (K' := [11271]) (by repeat (first | exact eF_refl | refine eF_cs ?_ rfl)) (by repeat (first | exact eH_refl | refine eH_rs ?_ rfl | refine eH_rsl ?_)) rfl rfl, eG7_mono (eG7_fr g7 (K := [10402]) (K' := [11271]) (by repeat (first | exact eF_refl | refine eF_cs ?_ rfl)) (by repeat (first | exact eH_refl | refine eH_rs ?_ rfl | refine eH_rsl ?_)) rfl rfl) (Nat.le_succ n), ?_, eG9_fr g9 (K := [10402]) (K' := [11271]) (by repeat (first | exact eF_refl | refine eF_cs ?_ rfl)) (by repeat (first | exact eH_refl | refine eH_rs ?_ rfl | refine eH_rsl ?_)) rfl rfl⟩
  obtain ⟨a1, a2, a3⟩ := g8
  exact ⟨a1, ⟨rfl, h2.1, h2.2⟩, a3⟩
theorem logOf_e {e k : Nat} (he : e < 6) (hk : k < 5) (M : cM) : m4_logOf (nI e) (nI k) M = some (cg M 504 0 (5 * e + k), M) := by
  unfold m4_logOf
  rw [e5, eI_add, if_neg, if_neg]
  · simp only [ezin_nI (show 5 * e + k < 30 by omega) (show 30 < 2 ^ 31 by decide), ex_nI (show 5 * e + k < 2 ^ 31 by omega), zbd_s, zbv_s, zgd_t, Bool.and_true, Bool.true_and, Bool.and_self, if_true, if_false, e_01, eq_self, Bool.false_eq_true]
  · rw [show (30 : Int32) = nI 30 from rfl, eI_le (by omega) (by omega)]; omega
  · rw [show (0 : Int32) = nI 0 from rfl, eI_lt (by omega) (by omega)]; omega
theorem o_log {n : Nat} {MC : cM} {MR : rM} (h : eRel n MC MR) (x1 x2 x3 : Int32) : eO n (m11_log x1 x2 x3 MC) (m12_log x1 x2 x3 MR) := by
  obtain ⟨m, t, hm, ht, g0, g1, g2, g3, g4, g5, g6, g7, g8, g9⟩ := h
  have g8' := g8
  obtain ⟨⟨d, d1, d2, d3, d4⟩, a2, a3, a4, a5, a6⟩ := g8'
  unfold m11_log m12_log
  rcases e_sp x1 with h1 | ⟨e, he, rfl⟩
  · simp only [er_n h1, in_n h1, zbd_s, zbv_s, zgd_t, Bool.and_true, Bool.true_and, Bool.and_self, if_true, if_false, e_01, eq_self, Bool.false_eq_true]
    exact eO_same ⟨m, t, hm, ht, g0, g1, g2, g3, g4, g5, g6, g7, g8, g9⟩
  simp only [er_y he, in_y (show (0 : Int32) ≤ nI e by rw [show (0 : Int32) = nI 0 from rfl, eI_le (by omega) (by omega)]; omega) (show nI e ≤ 5 by rw [show (5 : Int32) = nI 5 from rfl, eI_le (by omega) (by omega)]; omega), zbd_s, zbv_s, zgd_t, Bool.and_true, Bool.true_and, Bool.and_self, if_true, if_false, e_01, eq_self, Bool.false_eq_true]
  rcases (Classical.em (0 ≤ x2 ∧ x2 < nI d)).symm with h2 | h2
  · simp only [tk_n d3 h2, idy_n d4 d2 h2, zbd_s, zbv_s, zgd_t, Bool.and_true, Bool.true_and, Bool.and_self, if_true, if_false, e_01, eq_self, Bool.false_eq_true]
    exact eO_same ⟨m, t, hm, ht, g0, g1, g2, g3, g4, g5, g6, g7, g8, g9⟩
  obtain ⟨k, hk, rfl⟩ := eI_ofb h2.1 h2.2 (by omega)
  simp only [tk_y d3 d2 hk, idy_y d4 d2 hk, zbd_s, zbv_s, zgd_t, Bool.and_true, Bool.true_and, Bool.and_self, if_true, if_false, e_01, eq_self, Bool.false_eq_true]
  rcases (Classical.em ((0 : Int32) ≤ x3 ∧ x3 ≤ 2)).symm with h3 | h3
  · simp only [out_y h3, in_n h3, zbd_s, zbv_s, zgd_t, Bool.and_true, Bool.true_and, Bool.and_self, if_true, if_false, e_01, eq_self, Bool.false_eq_true]
    exact eO_same ⟨m, t, hm, ht, g0, g1, g2, g3, g4, g5, g6, g7, g8, g9⟩
  simp only [out_n h3.1 h3.2, in_y h3.1 h3.2, zbd_s, zbv_s, zgd_t, Bool.and_true, Bool.true_and, Bool.and_self, if_true, if_false, e_01, eq_self, Bool.false_eq_true]
  simp only [m4_writeLog, logOf_e he (show k < 5 by omega), e5, eI_add, show (nI (5 * e + k) < 0) = False from eq_false (by rw [show (0 : Int32) = nI 0 from rfl, eI_lt (by omega) (by omega)]; omega), show ((30 : Int32) ≤ nI (5 * e + k)) = False from eq_false (by rw [show (30 : Int32) = nI 30 from rfl, eI_le (by omega) (by omega)]; omega), ezin_nI (show 5 * e + k < 30 by omega) (show 30 < 2 ^ 31 by decide), ex_nI (show 5 * e + k < 2 ^ 31 by omega), zbd_s, zbv_s, zgd_t, Bool.and_true, Bool.true_and, Bool.and_self, if_true, if_false, e_01, eq_self, Bool.false_eq_true]
  refine eO_fin (a4 _ (by omega)).1 ⟨m, t, hm, ht, eG0_fr g0 (K := [504]) (K' := [1370]) (by repeat (first | exact eF_refl | refine eF_cs ?_ rfl)) (by repeat (first | exact eH_refl | refine eH_rs ?_ rfl | refine eH_rsl ?_)) rfl rfl, eG1_fr g1 (K := [504]) (K' := [1370]) (by repeat (first | exact eF_refl | refine eF_cs ?_ rfl)) (by repeat (first | exact eH_refl | refine eH_rs ?_ rfl | refine eH_rsl ?_)) rfl rfl, eG2_fr g2 (K := [504]) (K' := [1370]) (by repeat (first | exact eF_refl | refine eF_cs ?_ rfl)) (by repeat (first | exact eH_refl | refine eH_rs ?_ rfl | refine eH_rsl ?_)) rfl rfl, eG3_fr g3 (K := [504]) (K' := [1370]) (by repeat (first | exact eF_refl | refine eF_cs ?_ rfl)) (by repeat (first | exact eH_refl | refine eH_rs ?_ rfl | refine eH_rsl ?_)) (fun _ _ => rfl) rfl rfl, eG4_fr g4 (K := [504]) (K' := [1370]) (by repeat (first | exact eF_refl | refine eF_cs ?_ rfl)) (by repeat (first | exact eH_refl | refine eH_rs ?_ rfl | refine eH_rsl ?_)) rfl rfl, eG5_fr g5 (K := [504]) (K' := [1370]) (by repeat (first | exact eF_refl | refine eF_cs ?_ rfl)) (by repeat (first | exact eH_refl | refine eH_rs ?_ rfl | refine eH_rsl ?_)) rfl rfl, eG6_fr g6 (K := [504]) (K' := [1370]) (by repeat (first | exact eF_refl | refine eF_cs ?_ rfl)) (by repeat (first | exact eH_refl | refine eH_rs ?_ rfl | refine eH_rsl ?_)) rfl rfl, eG7_mono (eG7_fr g7 (K := [504]) (K' := [1370]) (by repeat (first | exact eF_refl | refine eF_cs ?_ rfl)) (by repeat (first | exact eH_refl | refine eH_rs ?_ rfl | refine eH_rsl ?_)) rfl rfl) (Nat.le_succ n), ?_, eG9_fr g9 (K := [504]) (K' := [1370]) (by repeat (first | exact eF_refl | refine eF_cs ?_ rfl)) (by repeat (first | exact eH_refl | refine eH_rs ?_ rfl | refine eH_rsl ?_)) rfl rfl⟩
  refine ⟨⟨d, d1, d2, d3, d4⟩, a2, a3, fun j hj => ?_, a5, a6⟩
  have := a4 j hj
  simp only [cg_cs, rg_rs]
  by_cases hje : j = 5 * e + k
  · subst hje; simp; lia
  · simp [hje]; exact this
theorem o_way {n : Nat} {MC : cM} {MR : rM} (h : eRel n MC MR) (x1 x2 x3 : Int32) : eO n (m11_way x1 x2 x3 MC) (m12_way x1 x2 x3 MR) := by
  obtain ⟨m, t, hm, ht, g0, g1, g2, g3, g4, g5, g6, g7, g8, g9⟩ := h
  have g8' := g8
  obtain ⟨a1, a2, a3, a4, a5, a6⟩ := g8'
  unfold m11_way m12_way
  rcases e_sp x1 with h1 | ⟨a, ha, rfl⟩
  · simp only [sp_n h1, isp_n h1, zbd_s, zbv_s, zgd_t, Bool.and_true, Bool.true_and, Bool.and_self, if_true, if_false, e_01, eq_self, Bool.false_eq_true]
    exact eO_same ⟨m, t, hm, ht, g0, g1, g2, g3, g4, g5, g6, g7, g8, g9⟩
  rcases e_sp x2 with h2 | ⟨b, hb, rfl⟩
  · simp only [sp_y ha, isp_y ha, sp_n h2, isp_n h2, zbd_s, zbv_s, zgd_t, Bool.and_true, Bool.true_and, Bool.and_self, if_true, if_false, e_01, eq_self, Bool.false_eq_true]
    exact eO_same ⟨m, t, hm, ht, g0, g1, g2, g3, g4, g5, g6, g7, g8, g9⟩
  simp only [sp_y ha, isp_y ha, sp_y hb, isp_y hb, eI_inj (show a < 2 ^ 31 by omega) (show b < 2 ^ 31 by omega), zbd_s, zbv_s, zgd_t, Bool.and_true, Bool.true_and, Bool.and_self, if_true, if_false, e_01, eq_self, Bool.false_eq_true]
  by_cases hab : a = b
  · simp only [hab, if_true]
    exact eO_same ⟨m, t, hm, ht, g0, g1, g2, g3, g4, g5, g6, g7, g8, g9⟩
  have hba : ¬ b = a := fun h => hab h.symm
  have hca := (a5 a ha).1
  have hcb := (a5 b hb).1
  have q1 : ∀ v, cg (cs MC 505 0 a v) 505 0 b = rg MR 1368 0 b := by intro v; rw [cg_cs, if_neg (by omega)]; exact hcb
  have q2 : ∀ v, rg (rs MR 1368 0 a v) 1368 0 b = rg MR 1368 0 b := by intro v; rw [rg_rs, if_neg (by omega)]
  simp only [hab, if_false, m4_layWay, m4_layWay_64, m4_layWay_99, m12_way_68, m12_way_103, sp_y ha, sp_y hb, ezin_nI (show a < 6 by omega) (show 6 < 2 ^ 31 by decide), ex_nI (show a < 2 ^ 31 by omega), ezin_nI (show b < 6 by omega) (show 6 < 2 ^ 31 by decide), ex_nI (show b < 2 ^ 31 by omega), hca, q1, q2, zbd_s, zbv_s, zgd_t, Bool.and_true, Bool.true_and, Bool.and_self, if_true, if_false, e_01, eq_self, Bool.false_eq_true]
  by_cases h3 : x3 = 0
  · simp only [h3, if_true]
    refine eO_fin rfl ⟨m, t, hm, ht, eG0_fr g0 (K := [505]) (K' := [1368]) (by repeat (first | exact eF_refl | refine eF_cs ?_ rfl)) (by repeat (first | exact eH_refl | refine eH_rs ?_ rfl | refine eH_rsl ?_)) rfl rfl, eG1_fr g1 (K := [505]) (K' := [1368]) (by repeat (first | exact eF_refl | refine eF_cs ?_ rfl)) (by repeat (first | exact eH_refl | refine eH_rs ?_ rfl | refine eH_rsl ?_)) rfl rfl, eG2_fr g2 (K := [505]) (K' := [1368]) (by repeat (first | exact eF_refl | refine eF_cs ?_ rfl)) (by repeat (first | exact eH_refl | refine eH_rs ?_ rfl | refine eH_rsl ?_)) rfl rfl, eG3_fr g3 (K := [505]) (K' := [1368]) (by repeat (first | exact eF_refl | refine eF_cs ?_ rfl)) (by repeat (first | exact eH_refl | refine eH_rs ?_ rfl | refine eH_rsl ?_)) (fun _ _ => rfl) rfl rfl, eG4_fr g4 (K := [505]) (K' := [1368]) (by repeat (first | exact eF_refl | refine eF_cs ?_ rfl)) (by repeat (first | exact eH_refl | refine eH_rs ?_ rfl | refine eH_rsl ?_)) rfl rfl, eG5_fr g5 (K := [505]) (K' := [1368]) (by repeat (first | exact eF_refl | refine eF_cs ?_ rfl)) (by repeat (first | exact eH_refl | refine eH_rs ?_ rfl | refine eH_rsl ?_)) rfl rfl, eG6_fr g6 (K := [505]) (K' := [1368]) (by repeat (first | exact eF_refl | refine eF_cs ?_ rfl)) (by repeat (first | exact eH_refl | refine eH_rs ?_ rfl | refine eH_rsl ?_)) rfl rfl, eG7_mono (eG7_fr g7 (K := [505]) (K' := [1368]) (by repeat (first | exact eF_refl | refine eF_cs ?_ rfl)) (by repeat (first | exact eH_refl | refine eH_rs ?_ rfl | refine eH_rsl ?_)) rfl rfl) (Nat.le_succ n), ?_, eG9_fr g9 (K := [505]) (K' := [1368]) (by repeat (first | exact eF_refl | refine eF_cs ?_ rfl)) (by repeat (first | exact eH_refl | refine eH_rs ?_ rfl | refine eH_rsl ?_)) rfl rfl⟩
    refine ⟨a1, a2, a3, a4, fun c hc => ?_, a6⟩
    have e1 : ∀ c, c < 6 → rg (rs (rs MR 1368 0 a (rg MR 1368 0 a &&& (zshl 1 (nI b) ^^^ -1))) 1368 0 b (rg MR 1368 0 b &&& (zshl 1 (nI a) ^^^ -1))) 1368 0 c = if c = b then rg MR 1368 0 b &&& (zshl 1 (nI a) ^^^ -1) else if c = a then rg MR 1368 0 a &&& (zshl 1 (nI b) ^^^ -1) else rg MR 1368 0 c := by
      intro c _; simp only [rg_rs]; simp
    refine ⟨?_, fun e he => ?_⟩
    · rw [e1 c hc]
      have := (a5 c hc).1
      simp only [cg_cs]; grind
    · have hW : ∀ c e, c < 6 → e < 6 → eb (rg (rs (rs MR 1368 0 a (rg MR 1368 0 a &&& (zshl 1 (nI b) ^^^ -1))) 1368 0 b (rg MR 1368 0 b &&& (zshl 1 (nI a) ^^^ -1))) 1368 0 c) e = (eb (rg MR 1368 0 c) e && !(decide ((c = a ∧ e = b) ∨ (c = b ∧ e = a)))) := by
        intro c e hc he
        rw [e1 c hc]
        by_cases c1 : c = b
        · subst c1
          rw [if_pos rfl, eb_and, eb_xor, eb_shl (by omega), eb_m1 (by omega)]
          by_cases c3 : e = a <;> simp [c3, hba, hab]
        · rw [if_neg c1]
          by_cases c2 : c = a
          · subst c2
            rw [if_pos rfl, eb_and, eb_xor, eb_shl (by omega), eb_m1 (by omega)]
            by_cases c3 : e = b <;> simp [c3, hba, hab]
          · rw [if_neg c2]; simp [c1, c2]
      rw [hW c e hc he, hW e c he hc, (a5 c hc).2 e he]
      congr 2
      rw [decide_eq_decide]; omega
  · simp only [h3, if_false]
    refine eO_fin rfl ⟨m, t, hm, ht, eG0_fr g0 (K := [505]) (K' := [1368]) (by repeat (first | exact eF_refl | refine eF_cs ?_ rfl)) (by repeat (first | exact eH_refl | refine eH_rs ?_ rfl | refine eH_rsl ?_)) rfl rfl, eG1_fr g1 (K := [505]) (K' := [1368]) (by repeat (first | exact eF_refl | refine eF_cs ?_ rfl)) (by repeat (first | exact eH_refl | refine eH_rs ?_ rfl | refine eH_rsl ?_)) rfl rfl, eG2_fr g2 (K := [505]) (K' := [1368]) (by repeat (first | exact eF_refl | refine eF_cs ?_ rfl)) (by repeat (first | exact eH_refl | refine eH_rs ?_ rfl | refine eH_rsl ?_)) rfl rfl, eG3_fr g3 (K := [505]) (K' := [1368]) (by repeat (first | exact eF_refl | refine eF_cs ?_ rfl)) (by repeat (first | exact eH_refl | refine eH_rs ?_ rfl | refine eH_rsl ?_)) (fun _ _ => rfl) rfl rfl, eG4_fr g4 (K := [505]) (K' := [1368]) (by repeat (first | exact eF_refl | refine eF_cs ?_ rfl)) (by repeat (first | exact eH_refl | refine eH_rs ?_ rfl | refine eH_rsl ?_)) rfl rfl, eG5_fr g5 (K := [505]) (K' := [1368]) (by repeat (first | exact eF_refl | refine eF_cs ?_ rfl)) (by repeat (first | exact eH_refl | refine eH_rs ?_ rfl | refine eH_rsl ?_)) rfl rfl, eG6_fr g6 (K := [505]) (K' := [1368]) (by repeat (first | exact eF_refl | refine eF_cs ?_ rfl)) (by repeat (first | exact eH_refl | refine eH_rs ?_ rfl | refine eH_rsl ?_)) rfl rfl, eG7_mono (eG7_fr g7 (K := [505]) (K' := [1368]) (by repeat (first | exact eF_refl | refine eF_cs ?_ rfl)) (by repeat (first | exact eH_refl | refine eH_rs ?_ rfl | refine eH_rsl ?_)) rfl rfl) (Nat.le_succ n), ?_, eG9_fr g9 (K := [505]) (K' := [1368]) (by repeat (first | exact eF_refl | refine eF_cs ?_ rfl)) (by repeat (first | exact eH_refl | refine eH_rs ?_ rfl | refine eH_rsl ?_)) rfl rfl⟩
    refine ⟨a1, a2, a3, a4, fun c hc => ?_, a6⟩
    have e1 : ∀ c, c < 6 → rg (rs (rs MR 1368 0 a (rg MR 1368 0 a ||| (zshl 1 (nI b)))) 1368 0 b (rg MR 1368 0 b ||| (zshl 1 (nI a)))) 1368 0 c = if c = b then rg MR 1368 0 b ||| (zshl 1 (nI a)) else if c = a then rg MR 1368 0 a ||| (zshl 1 (nI b)) else rg MR 1368 0 c := by
      intro c _; simp only [rg_rs]; simp
    refine ⟨?_, fun e he => ?_⟩
    · rw [e1 c hc]
      have := (a5 c hc).1
      simp only [cg_cs]; grind
    · have hW : ∀ c e, c < 6 → e < 6 → eb (rg (rs (rs MR 1368 0 a (rg MR 1368 0 a ||| zshl 1 (nI b))) 1368 0 b (rg MR 1368 0 b ||| zshl 1 (nI a))) 1368 0 c) e = (eb (rg MR 1368 0 c) e || (decide ((c = a ∧ e = b) ∨ (c = b ∧ e = a)))) := by
        intro c e hc he
        rw [e1 c hc]
        by_cases c1 : c = b
        · subst c1
          rw [if_pos rfl, eb_or, eb_shl (by omega)]
          by_cases c3 : e = a <;> simp [c3, hba, hab]
        · rw [if_neg c1]
          by_cases c2 : c = a
          · subst c2
            rw [if_pos rfl, eb_or, eb_shl (by omega)]
            by_cases c3 : e = b <;> simp [c3, hba, hab]
          · rw [if_neg c2]; simp [c1, c2]
      rw [hW c e hc he, hW e c he hc, (a5 c hc).2 e he]
      congr 1
      rw [decide_eq_decide]; omega
theorem o_lost {n : Nat} {MC : cM} {MR : rM} (h : eRel n MC MR) (x1 : Int32) : eO n (m11_lost x1 MC) (m12_lost x1 MR) := by
  obtain ⟨m, t, hm, ht, g0, g1, g2, g3, g4, g5, g6, g7, g8, g9⟩ := h
  unfold m11_lost m12_lost
  rcases (Classical.em ((0 : Int32) ≤ x1 ∧ x1 ≤ 7)).symm with h2 | h2
  · simp only [out_y h2, in_n h2, zbd_s, zbv_s, zgd_t, Bool.and_true, Bool.true_and, Bool.and_self, if_true, if_false, e_01, eq_self, Bool.false_eq_true]
    exact eO_same ⟨m, t, hm, ht, g0, g1, g2, g3, g4, g5, g6, g7, g8, g9⟩
  simp only [out_n h2.1 h2.2, in_y h2.1 h2.2, zbd_s, zbv_s, zgd_t, Bool.and_true, Bool.true_and, Bool.and_self, if_true, if_false, e_01, eq_self, Bool.false_eq_true]
  obtain ⟨j, hj, rfl⟩ := eI_ofl (b := 7) h2.1 h2.2 (by decide)
  have hj8 : j < 8 := by omega
  simp only [m0_told, show (nI j < 0) = False from eq_false (by rw [show (0 : Int32) = nI 0 from rfl, eI_lt (by omega) (by omega)]; omega), show ((8 : Int32) ≤ nI j) = False from eq_false (by rw [show (8 : Int32) = nI 8 from rfl, eI_le (by omega) (by omega)]; omega), ezin_nI (show j < 8 by omega) (show 8 < 2 ^ 31 by decide), ex_nI (show j < 2 ^ 31 by omega), zbd_s, zbv_s, zgd_t, Bool.and_true, Bool.true_and, Bool.and_self, if_true, if_false, e_01, eq_self, Bool.false_eq_true]
  have := g9.2.1 j hj8
  rw [this]
  exact eO_same ⟨m, t, hm, ht, g0, g1, g2, g3, g4, g5, g6, g7, g8, g9⟩
theorem o_kept {n : Nat} {MC : cM} {MR : rM} (h : eRel n MC MR) (x1 : Int32) : eO n (m11_kept x1 MC) (m12_kept x1 MR) := by
  obtain ⟨m, t, hm, ht, g0, g1, g2, g3, g4, g5, g6, g7, g8, g9⟩ := h
  unfold m11_kept m12_kept
  rcases (Classical.em ((0 : Int32) ≤ x1)).symm with h0 | h0
  · simp only [h0, if_false]
    exact eO_same ⟨m, t, hm, ht, g0, g1, g2, g3, g4, g5, g6, g7, g8, g9⟩
  obtain ⟨j, hj, rfl⟩ := eI_of h0
  obtain ⟨q, q1, q2, q3⟩ := g9.2.2.1
  simp only [h0, if_true, m0_wordKept, q2, q3, show (nI j < 0) = False from eq_false (by rw [show (0 : Int32) = nI 0 from rfl, eI_lt (by omega) (by omega)]; omega), eI_le (show q < 2 ^ 31 by omega) hj, zbd_s, zbv_s, zgd_t, Bool.and_true, Bool.true_and, Bool.and_self, if_true, if_false, e_01, eq_self, Bool.false_eq_true]
  by_cases hq : q ≤ j
  · simp only [hq, if_true]
    exact eO_same ⟨m, t, hm, ht, g0, g1, g2, g3, g4, g5, g6, g7, g8, g9⟩
  · simp only [hq, if_false, show ((12 : Int32) ≤ nI j) = False from eq_false (by rw [show (12 : Int32) = nI 12 from rfl, eI_le (by omega) (by omega)]; omega), ezin_nI (show j < 12 by omega) (show 12 < 2 ^ 31 by decide), ex_nI (show j < 2 ^ 31 by omega), zbd_s, zbv_s, zgd_t, Bool.and_true, Bool.true_and, Bool.and_self, if_true, if_false, e_01, eq_self, Bool.false_eq_true]
    rw [g9.2.2.2 j (by omega)]
    exact eO_same ⟨m, t, hm, ht, g0, g1, g2, g3, g4, g5, g6, g7, g8, g9⟩
