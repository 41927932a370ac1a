def eO8 (n : Nat) (o : Option (Int64 × cM)) (o' : Option (Int64 × rM)) : Prop := ∃ (r : Int64) (MC : cM) (MR : rM), o = some (r, MC) ∧ o' = some (r, MR) ∧ eRel (n + 1) MC MR
theorem eO8_same {n : Nat} {r : Int64} {MC : cM} {MR : rM} (h : eRel n MC MR) : eO8 n (some (r, MC)) (some (r, MR)) := by
  obtain ⟨m, t, a1, a2, a3, a4, a5, a6, a7, a8, a9, a10, a11⟩ := h
  exact ⟨r, MC, MR, rfl, rfl, m, t, a1, a2, a3, a4, a5, a6, a7, a8, a9, eG7_mono a10 (by omega), a11⟩
def eFar (s c d : Int32) : Bool := decide (s * s < (((zrem c 6) - (zrem d 6)) * ((zrem c 6) - (zrem d 6))) + (((c / 6) - (d / 6)) * ((c / 6) - (d / 6))))
def eDis (M : rM) (b c j : Nat) : Bool := !(decide (j = b)) && (!(decide (rg M 1358 0 j = 36)) && ((eb (rg M 1307 0 j) b || eb (rg M 1307 0 b) j) == eFar (rg M 1312 0 5) (nI c) (rg M 1358 0 j)))
theorem far_c {s : Int32} {M : cM} (h : cg M 401 0 5 = s) (c d : Int32) : m1_isInReach c d M = some (if eFar s c d then 0 else 1, M) := by
  unfold m1_isInReach eFar
  rw [show m3_setting 5 M = some (cg M 401 0 5, M) from setting_e (j := 5) (by decide) M]
  simp only [h, show znz 6 = true from rfl, zbd_s, zbv_s, zgd_t, Bool.and_true, Bool.true_and, Bool.and_self, if_true, if_false, e_01, eq_self, Bool.false_eq_true]
  split <;> simp_all
theorem dis_c {m t b c : Nat} {MC : cM} {MR : rM} (hm : m ≤ 10) (g0 : eG0 m t MC MR) (g1 : eG1 m MC MR) (hb : b < m) : m1_disagreeing (nI b) (nI c) MC = some (nI (eNum m (eDis MR b c)), MC) := by
  have hb10 : b < 10 := by omega
  unfold m1_disagreeing
  rw [of_y hb10, zbd_s]
  refine eloop0 (fun f k => m1_disagreeing_15 f (nI b) (nI c) b (nI (eNum k (eDis MR b c))) (nI k) MC = some (nI (eNum m (eDis MR b c)), MC)) (Nat.zero_le m) ?_ ?_ (zfu_gt (by omega))
  · intro f
    simp only [m1_disagreeing_15, g0.1, eI_le (show m < 2 ^ 31 by omega) (show m < 2 ^ 31 by omega), show (m ≤ m) = True from eq_true (by omega), zbd_s, zbv_s, zgd_t, Bool.and_true, Bool.true_and, Bool.and_self, if_true, if_false, e_01, eq_self, Bool.false_eq_true]
  · intro f k _ hk ih
    have hk10 : k < 10 := by omega
    rw [← ih, eNum_s]
    simp only [m1_disagreeing_15, m1_disagreeing_80, m1_disagreeing_100, g0.1, eI_le (show m < 2 ^ 31 by omega) (show k < 2 ^ 31 by omega), show (m ≤ k) = False from eq_false (by omega), of_y hk10, blt_t hk10, blt_t hb10, (g1.1 k hk10).2.2.2.2.2.2.2.1, hear_c g1 hb10 k hk10, hear_c g1 hk10 b hb10, far_c (g0.2.2.2.2 5 (by decide)).1, eI_inj (show k < 2 ^ 31 by omega) (show b < 2 ^ 31 by omega), ei_1, ep1, zbd_s, zbv_s, zgd_t, Bool.and_true, Bool.true_and, Bool.and_self, if_true, if_false, e_01, eq_self, Bool.false_eq_true]
    by_cases c1 : k = b
    · simp [c1, eDis]
    by_cases c2 : rg MR 1358 0 k = 36
    · simp [c1, c2, eDis]
    by_cases c3 : eb (rg MR 1307 0 b) k = true <;> by_cases c4 : eb (rg MR 1307 0 k) b = true <;> by_cases c5 : eFar (rg MR 1312 0 5) (nI c) (rg MR 1358 0 k) = true <;> simp [c1, c2, c3, c4, c5, eDis, ep1]
theorem dis_e {m b c : Nat} {MR : rM} (hm : m ≤ 10) (h0 : rg MR 12 0 0 = nI m) (hpl : ∀ j, j < 10 → rg MR 1358 0 j ≤ 36) (hb : b < m) (k30 : Int32 → Int32 → Int64 → Int32 → rM → Option (Int64 × rM)) (x2 : Int32) (x3 : Int64) : m12_cells_43 k30 zfu (nI b) x2 x3 (nI c) 0 0 MR = if x2 < nI (eNum m (eDis MR b c)) then k30 (nI b) x2 (x3 ||| 0) (nI (c + 1)) MR else k30 (nI b) x2 (x3 ||| zshlL 1 (nI c)) (nI (c + 1)) MR := by
  have hb10 : b < 10 := by omega
  refine eloop0 (fun f k => m12_cells_43 k30 f (nI b) x2 x3 (nI c) (nI (eNum k (eDis MR b c))) (nI k) MR = if x2 < nI (eNum m (eDis MR b c)) then k30 (nI b) x2 (x3 ||| 0) (nI (c + 1)) MR else k30 (nI b) x2 (x3 ||| zshlL 1 (nI c)) (nI (c + 1)) MR) (Nat.zero_le m) ?_ ?_ (zfu_gt (by omega))
  · intro f
    simp only [m12_cells_43, m12_cells_213, h0, eI_le (show m < 2 ^ 31 by omega) (show m < 2 ^ 31 by omega), show (m ≤ m) = True from eq_true (by omega), ep1, zbd_s, zbv_s, zgd_t, Bool.and_true, Bool.true_and, Bool.and_self, if_true, if_false, e_01, eq_self, Bool.false_eq_true]
  · intro f k _ hk ih
    have hk10 : k < 10 := by omega
    have h36 : ((36 : Int32) ≤ rg MR 1358 0 k) = (rg MR 1358 0 k = 36) := propext ⟨fun h => Int32.le_antisymm (hpl k hk10) h, fun h => by rw [h]; decide⟩
    rw [← ih, eNum_s]
    simp only [m12_cells_43, m12_cells_138, m12_cells_173, m12_cells_189, m12_cells_192, h0, eI_le (show m < 2 ^ 31 by omega) (show k < 2 ^ 31 by omega), show (m ≤ k) = False from eq_false (by omega), ezin_nI (show k < 10 by omega) (show 10 < 2 ^ 31 by decide), ex_nI (show k < 2 ^ 31 by omega), ezin_nI (show b < 10 by omega) (show 10 < 2 ^ 31 by decide), ex_nI (show b < 2 ^ 31 by omega), h36, isIn_y (show k < 32 by omega), isIn_y (show b < 32 by omega), eI_inj (show k < 2 ^ 31 by omega) (show b < 2 ^ 31 by omega), show znz 6 = true from rfl, show zin 5 7 = true from rfl, nx_k 5 (by decide), ei_1, ep1, zbd_s, zbv_s, zgd_t, Bool.and_true, Bool.true_and, Bool.and_self, if_true, if_false, e_01, eq_self, Bool.false_eq_true]
    by_cases c1 : k = b
    · simp [c1, eDis]
    by_cases c2 : rg MR 1358 0 k = 36
    · simp [c1, c2, eDis]
    by_cases c5 : rg MR 1312 0 5 * rg MR 1312 0 5 < (((zrem (nI c) 6) - (zrem (rg MR 1358 0 k) 6)) * ((zrem (nI c) 6) - (zrem (rg MR 1358 0 k) 6))) + (((nI c / 6) - (rg MR 1358 0 k / 6)) * ((nI c / 6) - (rg MR 1358 0 k / 6)))
    · have c6 : eFar (rg MR 1312 0 5) (nI c) (rg MR 1358 0 k) = true := by unfold eFar; exact decide_eq_true c5
      by_cases c3 : eb (rg MR 1307 0 b) k = true <;> by_cases c4 : eb (rg MR 1307 0 k) b = true <;> simp [c1, c2, c3, c4, c5, c6, eDis, ep1]
    · have c6 : eFar (rg MR 1312 0 5) (nI c) (rg MR 1358 0 k) = false := by unfold eFar; exact decide_eq_false c5
      by_cases c3 : eb (rg MR 1307 0 b) k = true <;> by_cases c4 : eb (rg MR 1307 0 k) b = true <;> simp [c1, c2, c3, c4, c5, c6, eDis, ep1]
theorem o_cells {n : Nat} {MC : cM} {MR : rM} (h : eRel n MC MR) (x1 x2 : Int32) : eO8 n (m11_cells x1 x2 MC) (m12_cells x1 x2 MR) := by
  have h' := h
  obtain ⟨m, t, hm, ht, g0, g1, g2, g3, g4, g5, g6, g7, g8, g9⟩ := h
  unfold m11_cells m12_cells
  rcases e_bx x1 m hm with hb | ⟨b, hb, rfl⟩
  · simp only [kn_n g0.1 hb, ib_n g0.2.1 hm hb, zbd_s, zbv_s, zgd_t, Bool.and_true, Bool.true_and, Bool.and_self, if_true, if_false, e_01, eq_self, Bool.false_eq_true]
    exact eO8_same h'
  have hb10 : b < 10 := by omega
  simp only [kn_y g0.1 hm hb, ib_y g0.2.1 hm hb, zbd_s, zbv_s, zgd_t, Bool.and_true, Bool.true_and, Bool.and_self, if_true, if_false, e_01, eq_self, Bool.false_eq_true]
  rcases (Classical.em ((0 : Int32) ≤ x2 ∧ x2 ≤ 2)).symm with h2 | h2
  · simp only [out_y h2, in_n h2, zbd_s, zbv_s, zgd_t, Bool.and_true, Bool.true_and, Bool.and_self, if_true, if_false, e_01, eq_self, Bool.false_eq_true]
    exact eO8_same h'
  simp only [out_n h2.1 h2.2, in_y h2.1 h2.2, zbd_s, zbv_s, zgd_t, Bool.and_true, Bool.true_and, Bool.and_self, if_true, if_false, e_01, eq_self, Bool.false_eq_true]
  have key : ∃ r, m1_mayBe (nI b) x2 MC = some (r, MC) ∧ m12_cells_30 zfu (nI b) x2 0 0 MR = some (r, MR) := by
    unfold m1_mayBe
    refine eloop (σ := Int64) (fun f k s => ∃ r, m1_mayBe_5 f (nI b) x2 s (nI k) MC = some (r, MC) ∧ m12_cells_30 f (nI b) x2 s (nI k) MR = some (r, MR)) (fun _ _ => True) (m := 36) (k0 := 0) (by omega) ?_ ?_ (zfu_gt (by omega)) trivial
    · intro f s _
      simp only [m1_mayBe_5, m12_cells_30, show ((36 : Int32) ≤ nI 36) = True from eq_true (by decide), zbd_s, zbv_s, zgd_t, Bool.and_true, Bool.true_and, Bool.and_self, if_true, if_false, e_01, eq_self, Bool.false_eq_true]
      exact ⟨s, rfl, rfl⟩
    · intro f k s _ hk _ ih
      simp only [m1_mayBe_5, m1_mayBe_30, m12_cells_30, show ((36 : Int32) ≤ nI k) = False from eq_false (by rw [show (36 : Int32) = nI 36 from rfl, eI_le (by omega) (by omega)]; omega), dis_c hm g0 g1 hb, dis_e hm g0.2.1 (fun j hj => (g1.1 j hj).2.2.2.2.2.2.2.2.2) hb, ep1, zbd_s, zbv_s, zgd_t, Bool.and_true, Bool.true_and, Bool.and_self, if_true, if_false, e_01, eq_self, Bool.false_eq_true]
      by_cases c : x2 < nI (eNum m (eDis MR b k))
      · simp only [c, if_true, Int64.or_zero]; exact ih s trivial
      · simp only [c, if_false]; exact ih _ trivial
  obtain ⟨r, e1, e2⟩ := key
  rw [e1, e2, zbd_s]
  exact eO8_same h'
