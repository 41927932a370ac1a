theorem o_result {n : Nat} {MC : cM} {MR : rM} (h : eRel n MC MR) (x1 : Int32) : eO n (m11_result x1 MC) (m12_result x1 MR) := by
  obtain ⟨m, t, hm, ht, g0, g1, g2, g3, g4, g5, g6, g7, g8, g9⟩ := h
  unfold m11_result m12_result
  rcases (Classical.em ((0 : Int32) ≤ x1 ∧ x1 ≤ 6)).symm with hx | hx
  · simp only [out_y hx, in_n hx, zbd_s, zbv_s, zgd_t, Bool.and_true, Bool.true_and, Bool.and_self, if_true, if_false, e_01, eq_self, Bool.false_eq_true]
    exact eO_same ⟨m, t, hm, ht, g0, g1, g2, g3, g4, g5, g6, g7, g8, g9⟩
  simp only [out_n hx.1 hx.2, in_y hx.1 hx.2, zbd_s, zbv_s, zgd_t, Bool.and_true, Bool.true_and, Bool.and_self, if_true, if_false, e_01, eq_self, Bool.false_eq_true]
  have h50 := g3.2.2.2.1
  obtain ⟨mn, al, s1, s2, s3, s4, -⟩ := g3.2.2.2.2.2.2.2.1 50 (by omega)
  have r52 : rg MR 1316 0 52 = nI mn := by rw [← s3]; exact (h50 2 (by omega)).symm
  have r53 : rg MR 1316 0 53 = nI al := by rw [← s4]; exact (h50 3 (by omega)).symm
  have r50 : rg MR 1316 0 50 = cg MC 9 50 0 := (h50 0 (by omega)).symm
  have r51 : rg MR 1316 0 51 = cg MC 9 50 1 := (h50 1 (by omega)).symm
  have r54 : rg MR 1316 0 54 = cg MC 9 50 4 := (h50 4 (by omega)).symm
  have b51 : Nat.blt 50 51 = true := rfl
  have kinds : ∀ i j : Nat, i < 100 → j < 100 → (nI i = nI j) = (i = j) := fun i j hi hj => eI_inj (by omega) (by omega)
  have b2 : Nat.blt 1 2 = true := rfl
  have n10 : ((1 : Int32) = 0) = False := eq_false (by decide)
  have g5' := g5
  rcases g5' with ⟨q0, q1⟩ | ⟨a, v, c, a1, a4, v1, v60, -, k40, k0, -, k1, -⟩
  · simp only [m7_isAsked, b2, q0, q1, Int32.le_refl, zbd_s, zbv_s, zgd_t, Bool.and_true, Bool.true_and, Bool.and_self, if_true, if_false, e_01, eq_self, Bool.false_eq_true]
    exact eO_same ⟨m, t, hm, ht, g0, g1, g2, g3, g4, g5, g6, g7, g8, g9⟩
  · have hv : ¬ nI v ≤ 0 := fun h => by rw [show (0 : Int32) = nI 0 from rfl, eI_le (by omega) (by omega)] at h; omega
    have ha0 : ¬ nI a = 0 := fun h => by rw [show (0 : Int32) = nI 0 from rfl, eI_inj (by omega) (by omega)] at h; omega
    have hmn0 : (nI mn = 0) = (mn = 0) := by rw [show (0 : Int32) = nI 0 from rfl, eI_inj (by omega) (by omega)]
    have same : ∀ r, eO n (some (r, MC)) (some (r, MR)) := fun r => eO_same ⟨m, t, hm, ht, g0, g1, g2, g3, g4, g5, g6, g7, g8, g9⟩
    obtain ⟨j, hj, rfl⟩ := eI_ofl hx.1 (b := 6) hx.2 (by decide)
    have e52 : nx (52 : Int32) = 52 := rfl
    have e53 : nx (53 : Int32) = 53 := rfl
    have z52 : zin (52 : Int32) 55 = true := by decide
    have z53 : zin (53 : Int32) 55 = true := by decide
    simp only [m7_isAsked, b2, k1, k40, hv, ha0, n10, z52, e52, r52, zbd_s, zbv_s, zgd_t, Bool.and_true, Bool.true_and, Bool.and_self, if_true, if_false, e_01, eq_self, Bool.false_eq_true]
    have hj : j = 0 ∨ j = 1 ∨ j = 2 ∨ j = 3 ∨ j = 4 ∨ j = 5 ∨ j = 6 := by omega
    rcases hj with rfl | rfl | rfl | rfl | rfl | rfl | rfl
    · have e1 : nI 0 = (0 : Int32) := rfl
      have e3 : zin (50 + (0 : Int32)) 55 = true := by decide
      have e4 : nx (50 + (0 : Int32)) = 50 := by decide
      simp only [e1, m12_result_51, m12_result_75, m9_isEmpty, b51, s3, hmn0, e3, e4, r50, n10, zbd_s, zbv_s, zgd_t, Bool.and_true, Bool.true_and, Bool.and_self, if_true, if_false, e_01, eq_self, Bool.false_eq_true, show ((0 : Int32) ≤ 1) = True from eq_true (by decide), show ((0 : Int32) ≤ 4) = True from eq_true (by decide), show ((2 : Int32) ≤ 0) = False from eq_false (by decide)]
      by_cases hm0 : mn = 0
      · simp only [hm0, zbd_s, zbv_s, zgd_t, Bool.and_true, Bool.true_and, Bool.and_self, if_true, if_false, e_01, eq_self, Bool.false_eq_true, n10]; exact same _
      · simp only [hm0, zbd_s, zbv_s, zgd_t, Bool.and_true, Bool.true_and, Bool.and_self, if_true, if_false, e_01, eq_self, Bool.false_eq_true, n10]; exact same _
    · have e1 : nI 1 = (1 : Int32) := rfl
      have e3 : zin (50 + (1 : Int32)) 55 = true := by decide
      have e4 : nx (50 + (1 : Int32)) = 51 := by decide
      simp only [e1, m12_result_51, m12_result_75, m9_isEmpty, b51, s3, hmn0, e3, e4, r51, n10, zbd_s, zbv_s, zgd_t, Bool.and_true, Bool.true_and, Bool.and_self, if_true, if_false, e_01, eq_self, Bool.false_eq_true, show ((1 : Int32) ≤ 1) = True from eq_true (by decide), show ((1 : Int32) ≤ 4) = True from eq_true (by decide), show ((2 : Int32) ≤ 1) = False from eq_false (by decide)]
      by_cases hm0 : mn = 0
      · simp only [hm0, zbd_s, zbv_s, zgd_t, Bool.and_true, Bool.true_and, Bool.and_self, if_true, if_false, e_01, eq_self, Bool.false_eq_true, n10]; exact same _
      · simp only [hm0, zbd_s, zbv_s, zgd_t, Bool.and_true, Bool.true_and, Bool.and_self, if_true, if_false, e_01, eq_self, Bool.false_eq_true, n10]; exact same _
    · have e1 : nI 2 = (2 : Int32) := rfl
      have e3 : zin (50 + (2 : Int32)) 55 = true := by decide
      have e4 : nx (50 + (2 : Int32)) = 52 := by decide
      simp only [e1, b51, s3, e3, e4, r52, n10, zbd_s, zbv_s, zgd_t, Bool.and_true, Bool.true_and, Bool.and_self, if_true, if_false, e_01, eq_self, Bool.false_eq_true, show ((2 : Int32) ≤ 1) = False from eq_false (by decide), show ((5 : Int32) ≤ 2) = False from eq_false (by decide), show ((2 : Int32) = 0) = False from eq_false (by decide), show ((2 : Int32) = 1) = False from eq_false (by decide)]
      exact same _
    · have e1 : nI 3 = (3 : Int32) := rfl
      have e3 : zin (50 + (3 : Int32)) 55 = true := by decide
      have e4 : nx (50 + (3 : Int32)) = 53 := by decide
      simp only [e1, b51, s4, e3, e4, r53, n10, zbd_s, zbv_s, zgd_t, Bool.and_true, Bool.true_and, Bool.and_self, if_true, if_false, e_01, eq_self, Bool.false_eq_true, show ((3 : Int32) ≤ 1) = False from eq_false (by decide), show ((5 : Int32) ≤ 3) = False from eq_false (by decide), show ((3 : Int32) = 0) = False from eq_false (by decide), show ((3 : Int32) = 1) = False from eq_false (by decide), show ((3 : Int32) = 2) = False from eq_false (by decide)]
      exact same _
    · have e1 : nI 4 = (4 : Int32) := rfl
      have e3 : zin (50 + (4 : Int32)) 55 = true := by decide
      have e4 : nx (50 + (4 : Int32)) = 54 := by decide
      simp only [e1, b51, e3, e4, r54, n10, zbd_s, zbv_s, zgd_t, Bool.and_true, Bool.true_and, Bool.and_self, if_true, if_false, e_01, eq_self, Bool.false_eq_true, show ((4 : Int32) ≤ 1) = False from eq_false (by decide), show ((5 : Int32) ≤ 4) = False from eq_false (by decide), show ((4 : Int32) = 0) = False from eq_false (by decide), show ((4 : Int32) = 1) = False from eq_false (by decide), show ((4 : Int32) = 2) = False from eq_false (by decide), show ((4 : Int32) = 3) = False from eq_false (by decide)]
      exact same _
    · have e1 : nI 5 = (5 : Int32) := rfl
      simp only [e1, m12_result_51, m12_result_75, m7_answerAbove, m9_isEmpty, b51, b2, k0, k40, s3, s4, hmn0, z53, e53, r53, n10, zbd_s, zbv_s, zgd_t, Bool.and_true, Bool.true_and, Bool.and_self, if_true, if_false, e_01, eq_self, Bool.false_eq_true, show ((5 : Int32) ≤ 1) = False from eq_false (by decide), show ((5 : Int32) ≤ 4) = False from eq_false (by decide), show ((5 : Int32) ≤ 5) = True from eq_true (by decide), show ((2 : Int32) ≤ 5) = True from eq_true (by decide), show ((5 : Int32) = 0) = False from eq_false (by decide), show ((5 : Int32) = 1) = False from eq_false (by decide), show ((5 : Int32) = 2) = False from eq_false (by decide), show ((5 : Int32) = 3) = False from eq_false (by decide), show ((5 : Int32) = 4) = False from eq_false (by decide)]
      have ha : a = 1 ∨ a = 2 ∨ a = 3 ∨ a = 4 := by omega
      by_cases hm0 : mn = 0
      · rcases ha with rfl | rfl | rfl | rfl
        · simp only [k0, s3, s4, show nI (1 - 1) = (0 : Int32) from rfl, show nI 1 = (1 : Int32) from rfl, hm0, n10, zbd_s, zbv_s, zgd_t, Bool.and_true, Bool.true_and, Bool.and_self, if_true, if_false, e_01, eq_self, Bool.false_eq_true, show ((0 : Int32) = 3) = False from eq_false (by decide), show ((1 : Int32) = 4) = False from eq_false (by decide)]; exact same _
        · simp only [k0, s3, s4, show nI (2 - 1) = (1 : Int32) from rfl, show nI 2 = (2 : Int32) from rfl, hm0, n10, zbd_s, zbv_s, zgd_t, Bool.and_true, Bool.true_and, Bool.and_self, if_true, if_false, e_01, eq_self, Bool.false_eq_true, show ((1 : Int32) = 3) = False from eq_false (by decide), show ((2 : Int32) = 4) = False from eq_false (by decide)]; exact same _
        · simp only [k0, s3, s4, show nI (3 - 1) = (2 : Int32) from rfl, show nI 3 = (3 : Int32) from rfl, hm0, n10, zbd_s, zbv_s, zgd_t, Bool.and_true, Bool.true_and, Bool.and_self, if_true, if_false, e_01, eq_self, Bool.false_eq_true, show ((2 : Int32) = 3) = False from eq_false (by decide), show ((3 : Int32) = 4) = False from eq_false (by decide)]; exact same _
        · simp only [k0, s3, s4, show nI (4 - 1) = (3 : Int32) from rfl, show nI 4 = (4 : Int32) from rfl, n10, zbd_s, zbv_s, zgd_t, Bool.and_true, Bool.true_and, Bool.and_self, if_true, if_false, e_01, eq_self, Bool.false_eq_true]; exact same _
      · obtain ⟨g, q1, q2, q3, q4⟩ := comm_e MC MR 10 al mn 0 zfu zfu (by omega) (by omega) (by omega) (by omega) (by omega) (zfu_gt (by omega)) (zfu_gt (by omega))
        have hg : znz (nI g) = true := by unfold znz; rw [decide_eq_false (fun h => by rw [show (0 : Int32) = nI 0 from rfl, eI_inj (by omega) (by omega)] at h; omega)]; rfl
        have q3' : m7_commonPart (nI al) (nI mn) MC = some (nI g, MC) := q3
        have q4' : m12_common (nI al) (nI mn) MR = some (nI g, MR) := q4
        rcases ha with rfl | rfl | rfl | rfl
        · simp only [k0, s3, s4, show nI (1 - 1) = (0 : Int32) from rfl, show nI 1 = (1 : Int32) from rfl, hm0, n10, zbd_s, zbv_s, zgd_t, Bool.and_true, Bool.true_and, Bool.and_self, if_true, if_false, e_01, eq_self, Bool.false_eq_true, show ((0 : Int32) = 3) = False from eq_false (by decide), show ((1 : Int32) = 4) = False from eq_false (by decide), show ((3 : Int32) ≤ 1) = False from eq_false (by decide), show zin ((50 : Int32) + 1 - 1) 55 = true from by decide, show nx ((50 : Int32) + 1 - 1) = 50 from by decide, r50]; exact same _
        · simp only [k0, s3, s4, show nI (2 - 1) = (1 : Int32) from rfl, show nI 2 = (2 : Int32) from rfl, hm0, n10, zbd_s, zbv_s, zgd_t, Bool.and_true, Bool.true_and, Bool.and_self, if_true, if_false, e_01, eq_self, Bool.false_eq_true, show ((1 : Int32) = 3) = False from eq_false (by decide), show ((2 : Int32) = 4) = False from eq_false (by decide), show ((3 : Int32) ≤ 2) = False from eq_false (by decide), show zin ((50 : Int32) + 2 - 1) 55 = true from by decide, show nx ((50 : Int32) + 2 - 1) = 51 from by decide, r51]; exact same _
        · simp only [k0, s3, s4, show nI (3 - 1) = (2 : Int32) from rfl, show nI 3 = (3 : Int32) from rfl, hm0, n10, zbd_s, zbv_s, zgd_t, Bool.and_true, Bool.true_and, Bool.and_self, if_true, if_false, e_01, eq_self, Bool.false_eq_true, show ((2 : Int32) = 3) = False from eq_false (by decide), show ((3 : Int32) = 4) = False from eq_false (by decide), show ((2 : Int32) = 0) = False from eq_false (by decide), show ((2 : Int32) = 1) = False from eq_false (by decide), Int32.le_refl, q3', q4', s4, r53, hg]; exact same _
        · simp only [k0, s3, s4, show nI (4 - 1) = (3 : Int32) from rfl, show nI 4 = (4 : Int32) from rfl, n10, zbd_s, zbv_s, zgd_t, Bool.and_true, Bool.true_and, Bool.and_self, if_true, if_false, e_01, eq_self, Bool.false_eq_true]; exact same _
    · have e1 : nI 6 = (6 : Int32) := rfl
      simp only [e1, m12_result_51, m12_result_75, m7_answerBelow, m9_isEmpty, b51, b2, k0, k40, s3, s4, hmn0, z53, e53, r53, n10, zbd_s, zbv_s, zgd_t, Bool.and_true, Bool.true_and, Bool.and_self, if_true, if_false, e_01, eq_self, Bool.false_eq_true, show ((6 : Int32) ≤ 1) = False from eq_false (by decide), show ((6 : Int32) ≤ 4) = False from eq_false (by decide), show ((5 : Int32) ≤ 6) = True from eq_true (by decide), show ((2 : Int32) ≤ 6) = True from eq_true (by decide), show ((6 : Int32) = 0) = False from eq_false (by decide), show ((6 : Int32) = 1) = False from eq_false (by decide), show ((6 : Int32) = 2) = False from eq_false (by decide), show ((6 : Int32) = 3) = False from eq_false (by decide), show ((6 : Int32) = 4) = False from eq_false (by decide), show ((6 : Int32) = 5) = False from eq_false (by decide)]
      have ha : a = 1 ∨ a = 2 ∨ a = 3 ∨ a = 4 := by omega
      by_cases hm0 : mn = 0
      · rcases ha with rfl | rfl | rfl | rfl
        · simp only [k0, s3, s4, show nI (1 - 1) = (0 : Int32) from rfl, show nI 1 = (1 : Int32) from rfl, hm0, n10, zbd_s, zbv_s, zgd_t, Bool.and_true, Bool.true_and, Bool.and_self, if_true, if_false, e_01, eq_self, Bool.false_eq_true, show ((0 : Int32) = 3) = False from eq_false (by decide), show ((1 : Int32) = 4) = False from eq_false (by decide)]; exact same _
        · simp only [k0, s3, s4, show nI (2 - 1) = (1 : Int32) from rfl, show nI 2 = (2 : Int32) from rfl, hm0, n10, zbd_s, zbv_s, zgd_t, Bool.and_true, Bool.true_and, Bool.and_self, if_true, if_false, e_01, eq_self, Bool.false_eq_true, show ((1 : Int32) = 3) = False from eq_false (by decide), show ((2 : Int32) = 4) = False from eq_false (by decide)]; exact same _
        · simp only [k0, s3, s4, show nI (3 - 1) = (2 : Int32) from rfl, show nI 3 = (3 : Int32) from rfl, hm0, n10, zbd_s, zbv_s, zgd_t, Bool.and_true, Bool.true_and, Bool.and_self, if_true, if_false, e_01, eq_self, Bool.false_eq_true, show ((2 : Int32) = 3) = False from eq_false (by decide), show ((3 : Int32) = 4) = False from eq_false (by decide)]; exact same _
        · simp only [k0, s3, s4, show nI (4 - 1) = (3 : Int32) from rfl, show nI 4 = (4 : Int32) from rfl, n10, zbd_s, zbv_s, zgd_t, Bool.and_true, Bool.true_and, Bool.and_self, if_true, if_false, e_01, eq_self, Bool.false_eq_true]; exact same _
      · obtain ⟨g, q1, q2, q3, q4⟩ := comm_e MC MR 10 al mn 0 zfu zfu (by omega) (by omega) (by omega) (by omega) (by omega) (zfu_gt (by omega)) (zfu_gt (by omega))
        have hg : znz (nI g) = true := by unfold znz; rw [decide_eq_false (fun h => by rw [show (0 : Int32) = nI 0 from rfl, eI_inj (by omega) (by omega)] at h; omega)]; rfl
        have q3' : m7_commonPart (nI al) (nI mn) MC = some (nI g, MC) := q3
        have q4' : m12_common (nI al) (nI mn) MR = some (nI g, MR) := q4
        rcases ha with rfl | rfl | rfl | rfl
        · simp only [k0, s3, s4, show nI (1 - 1) = (0 : Int32) from rfl, show nI 1 = (1 : Int32) from rfl, hm0, n10, zbd_s, zbv_s, zgd_t, Bool.and_true, Bool.true_and, Bool.and_self, if_true, if_false, e_01, eq_self, Bool.false_eq_true, show ((0 : Int32) = 3) = False from eq_false (by decide), show ((0 : Int32) = 2) = False from eq_false (by decide), show ((1 : Int32) = 4) = False from eq_false (by decide), show ((3 : Int32) ≤ 1) = False from eq_false (by decide)]; exact same _
        · simp only [k0, s3, s4, show nI (2 - 1) = (1 : Int32) from rfl, show nI 2 = (2 : Int32) from rfl, hm0, n10, zbd_s, zbv_s, zgd_t, Bool.and_true, Bool.true_and, Bool.and_self, if_true, if_false, e_01, eq_self, Bool.false_eq_true, show ((1 : Int32) = 3) = False from eq_false (by decide), show ((1 : Int32) = 2) = False from eq_false (by decide), show ((2 : Int32) = 4) = False from eq_false (by decide), show ((3 : Int32) ≤ 2) = False from eq_false (by decide)]; exact same _
        · simp only [k0, s3, s4, show nI (3 - 1) = (2 : Int32) from rfl, show nI 3 = (3 : Int32) from rfl, hm0, n10, zbd_s, zbv_s, zgd_t, Bool.and_true, Bool.true_and, Bool.and_self, if_true, if_false, e_01, eq_self, Bool.false_eq_true, show ((2 : Int32) = 3) = False from eq_false (by decide), show ((3 : Int32) = 4) = False from eq_false (by decide), Int32.le_refl, q3', q4', s3, hg]; exact same _
        · simp only [k0, s3, s4, show nI (4 - 1) = (3 : Int32) from rfl, show nI 4 = (4 : Int32) from rfl, n10, zbd_s, zbv_s, zgd_t, Bool.and_true, Bool.true_and, Bool.and_self, if_true, if_false, e_01, eq_self, Bool.false_eq_true]; exact same _
