theorem list_c {m t0 d A : Nat} {MC : cM} {MR : rM} (g0 : eG0 m t0 MC MR) (g8 : eG8 MC MR) (h1 : cg MC 4 0 1 = nI d) (hd1 : 1 ≤ d) (hd : d ≤ 5) (hA : A ≤ 3) (h6 : rg MR 1312 0 6 = nI A) : ∃ MC', m4_listCourses MC = some (nI (eLs (eQ MR (rg MR 12 0 71) A d) (6 ^ d)).length, MC') ∧ eF [506, 510, 511] MC MC' ∧ MC'.2 = MC.2 ∧ eArC MC' 510 (eLs (eQ MR (rg MR 12 0 71) A d) (6 ^ d)) (fun c => c) := by
  have hp : 6 ^ d ≤ 6 ^ 5 := Nat.pow_le_pow_right (by decide) hd
  have hp5 : (6 : Nat) ^ 5 = 7776 := by decide
  obtain ⟨w, hw⟩ : ∃ w, w = rg MR 12 0 71 := ⟨_, rfl⟩
  obtain ⟨M1, e1, f1, p1, q1⟩ := weigh_c g8 h1 hd w
  have hset : m3_setting 6 M1 = some (nI A, M1) := by
    rw [show m3_setting 6 M1 = some (cg M1 401 0 6, M1) from setting_e (j := 6) (by decide) M1, f1 401 0 6 rfl, (g0.2.2.2.2 6 (by decide)).1, h6]
  unfold m4_listCourses
  rw [g8.2.1.1, ← hw, e1, zbv_s, hset, zbd_s]
  have hTo1 : ∀ s, s < 6 → eTo MR w 1 s = eMis MR w 0 s := by
    intro s hs
    rw [eTo_s, show s % 6 = s by omega, show decide (0 = 0) = true from rfl, Bool.true_or, if_pos rfl]
    show 0 + eMis MR w 0 s + 0 = _
    omega
  refine eloop (σ := cM) (fun f s M => ∃ MC', m4_listCourses_22 f (nI A) (nI (eLs (eQ MR w A 1) s).length) (nI s) M = some (nI (eLs (eQ MR w A d) (6 ^ d)).length, MC') ∧ eF [506, 510, 511] MC MC' ∧ MC'.2 = MC.2 ∧ eArC MC' 510 (eLs (eQ MR w A d) (6 ^ d)) (fun c => c)) (fun s M => eF [510] M1 M ∧ M.2 = MC.2 ∧ eArC M 510 (eLs (eQ MR w A 1) s) (eVl MR w 1)) (m := 6) (k0 := 0) (by omega) ?_ ?_ (zfu_gt (by omega)) ⟨eF_refl, p1, fun i x h => by simp [eLs] at h⟩
  · rintro f M ⟨i1, i2, i3⟩
    simp only [m4_listCourses_22, show ((6 : Int32) ≤ nI 6) = True from eq_true (by decide), zbd_s, zbv_s, zgd_t, Bool.and_true, Bool.true_and, Bool.and_self, if_true, if_false, e_01, eq_self, Bool.false_eq_true]
    refine eloop (σ := cM) (fun f t M => ∃ MC', m4_listCourses_68 f (nI A) (nI (eLs (eQ MR w A t) (6 ^ t)).length) (nI t) M = some (nI (eLs (eQ MR w A d) (6 ^ d)).length, MC') ∧ eF [506, 510, 511] MC MC' ∧ MC'.2 = MC.2 ∧ eArC MC' 510 (eLs (eQ MR w A d) (6 ^ d)) (fun c => c)) (fun t M => eF [510, 511] M1 M ∧ M.2 = MC.2 ∧ eArC M 510 (eLs (eQ MR w A t) (6 ^ t)) (eVl MR w t)) (m := d) (k0 := 1) (by omega) ?_ ?_ (zfu_gt (by omega)) ⟨eF_mono i1 rfl, i2, i3⟩
    · rintro f M ⟨j1, j2, j3⟩
      have h1' : cg M 4 0 1 = nI d := by rw [j1 4 0 1 rfl, f1 4 0 1 rfl, h1]
      have hln := eLs_len (eQ MR w A d) (6 ^ d)
      simp only [m4_listCourses_68, h1', eI_le (show d < 2 ^ 31 by omega) (show d < 2 ^ 31 by omega), show (d ≤ d) = True from eq_true (by omega), zbd_s, zbv_s, zgd_t, Bool.and_true, Bool.true_and, Bool.and_self, if_true, if_false, e_01, eq_self, Bool.false_eq_true]
      refine eloop (σ := cM) (fun f i N => ∃ MC', m4_listCourses_92 f (nI (eLs (eQ MR w A d) (6 ^ d)).length) (nI i) N = some (nI (eLs (eQ MR w A d) (6 ^ d)).length, MC') ∧ eF [506, 510, 511] MC MC' ∧ MC'.2 = MC.2 ∧ eArC MC' 510 (eLs (eQ MR w A d) (6 ^ d)) (fun c => c)) (fun i N => eF [510] M N ∧ N.2 = MC.2 ∧ (∀ j x, j < i → (eLs (eQ MR w A d) (6 ^ d))[j]? = some x → cg N 510 0 j = nI x) ∧ ∀ j, i ≤ j → cg N 510 0 j = cg M 510 0 j) (m := (eLs (eQ MR w A d) (6 ^ d)).length) (k0 := 0) (Nat.zero_le _) ?_ ?_ (zfu_gt (by omega)) ⟨eF_refl, j2, fun j x h => absurd h (by omega), fun j _ => rfl⟩
      · rintro f N ⟨l1, l2, l3, l4⟩
        simp only [m4_listCourses_92, eI_le (show (eLs (eQ MR w A d) (6 ^ d)).length < 2 ^ 31 by omega) (show (eLs (eQ MR w A d) (6 ^ d)).length < 2 ^ 31 by omega), Nat.le_refl, zbd_s, zbv_s, zgd_t, Bool.and_true, Bool.true_and, Bool.and_self, if_true, if_false, e_01, eq_self, Bool.false_eq_true]
        refine ⟨N, rfl, eF_trans (eF_mono f1 rfl) (eF_trans (eF_mono j1 rfl) (eF_mono l1 rfl)), l2, fun i x h => l3 i x ?_ h⟩
        exact (List.getElem?_eq_some_iff.mp h).1
      · rintro f i N _ hi ⟨l1, l2, l3, l4⟩ ih
        obtain ⟨c, hc⟩ : ∃ c, (eLs (eQ MR w A d) (6 ^ d))[i]? = some c := ⟨_, List.getElem?_eq_getElem hi⟩
        have hm := eLs_mem (List.mem_of_getElem? hc)
        have hq := hm.2
        unfold eQ at hq
        rw [decide_eq_true_eq] at hq
        have hv : cg N 510 0 i = nI (4 * c + eTo MR w d c) := by rw [l4 i (Nat.le_refl _)]; exact j3 i c hc
        simp only [m4_listCourses_92, eI_le (show (eLs (eQ MR w A d) (6 ^ d)).length < 2 ^ 31 by omega) (show i < 2 ^ 31 by omega), show ((eLs (eQ MR w A d) (6 ^ d)).length ≤ i) = False from eq_false (by omega), show ((7776 : Int32) ≤ nI i) = False from eq_false (by rw [show (7776 : Int32) = nI 7776 from rfl, eI_le (by omega) (by omega)]; omega), ezin_nI (show i < 7776 by omega) (show 7776 < 2 ^ 31 by decide), ex_nI (show i < 2 ^ 31 by omega), hv, hi4 (show eTo MR w d c < 4 by omega) (show 4 * c + eTo MR w d c < 2 ^ 31 by omega), ep1, zbd_s, zbv_s, zgd_t, Bool.and_true, Bool.true_and, Bool.and_self, if_true, if_false, e_01, eq_self, Bool.false_eq_true]
        refine ih _ ⟨eF_cs l1 rfl, l2, fun j x hj hx => ?_, fun j hj => ?_⟩
        · by_cases hji : j = i
          · subst hji
            rw [hc] at hx; cases hx
            simp [cg_cs]
          · rw [cg_cs, if_neg (by omega)]; exact l3 j x (by omega) hx
        · rw [cg_cs, if_neg (by omega)]; exact l4 j (by omega)
    · rintro f t M ht1 ht ⟨j1, j2, j3⟩ ih
      have h1' : cg M 4 0 1 = nI d := by rw [j1 4 0 1 rfl, f1 4 0 1 rfl, h1]
      have g8' : eG8 M MR := eG8_fr g8 (eF_trans (eF_mono f1 rfl : eF [506, 510, 511] MC M1) (eF_mono j1 rfl)) (eH_refl (K := [])) (by unfold cp; rw [j2]; exact ⟨rfl, rfl⟩) rfl rfl
      obtain ⟨M', r1, r2, r3, r4⟩ := grow_c (w := w) g8' hd ht1 ht hA (fun s hs => by rw [j1 506 0 _ rfl]; exact q1 t s ht hs) j3
      simp only [m4_listCourses_68, h1', eI_le (show d < 2 ^ 31 by omega) (show t < 2 ^ 31 by omega), show (d ≤ t) = False from eq_false (by omega), r1, ep1, zbd_s, zbv_s, zgd_t, Bool.and_true, Bool.true_and, Bool.and_self, if_true, if_false, e_01, eq_self, Bool.false_eq_true]
      exact ih M' ⟨eF_trans j1 r2, by rw [r3, j2], r4⟩
  · rintro f s M _ hs ⟨i1, i2, i3⟩ ih
    have hms : cg M 506 0 (6 * 0 + s) = nI (eMis MR w 0 s) := by rw [i1 506 0 _ rfl, q1 0 s (by omega) hs]
    have hml := eMis_le MR w 0 s
    have hln := eLs_len (eQ MR w A 1) s
    have hmiss : m4_missedAt 0 (nI s) M = some (nI (eMis MR w 0 s), M) := by
      rw [show m4_missedAt 0 (nI s) M = some (cg M 506 0 (6 * 0 + s), M) from missed_c (t := 0) (by decide) hs M, hms]
    rw [eLs_s] at ih
    have hzl : zin (nI (eLs (eQ MR w A 1) s).length) 7776 = true := ezin_nI (by omega) (by decide)
    have hxl : nx (nI (eLs (eQ MR w A 1) s).length) = (eLs (eQ MR w A 1) s).length := ex_nI (by omega)
    simp only [m4_listCourses_22, m4_listCourses_60, show ((6 : Int32) ≤ nI s) = False from eq_false (by rw [show (6 : Int32) = nI 6 from rfl, eI_le (by omega) (by omega)]; omega), hmiss, eI_le (show eMis MR w 0 s < 2 ^ 31 by omega) (show A < 2 ^ 31 by omega), hzl, hxl, ep1, zbd_s, zbv_s, zgd_t, Bool.and_true, Bool.true_and, Bool.and_self, if_true, if_false, e_01, eq_self, Bool.false_eq_true]
    by_cases hag : eMis MR w 0 s ≤ A
    · have hqt : eQ MR w A 1 s = true := by unfold eQ; rw [hTo1 s hs, decide_eq_true_eq]; exact hag
      rw [hqt] at ih
      simp only [hag, if_true]
      rw [pack4 (show eMis MR w 0 s < 4 by omega), show 4 * s + eMis MR w 0 s = eVl MR w 1 s by unfold eVl; rw [hTo1 s hs]]
      have := ih (cs M 510 0 (eLs (eQ MR w A 1) s).length (nI (eVl MR w 1 s))) ⟨eF_cs i1 rfl, i2, eArC_app (x := s) i3⟩
      rw [show (eLs (eQ MR w A 1) s ++ if true = true then [s] else []).length = (eLs (eQ MR w A 1) s).length + 1 by simp] at this
      exact this
    · have hqf : eQ MR w A 1 s = false := by unfold eQ; rw [hTo1 s hs, decide_eq_false_iff_not]; exact hag
      rw [hqf] at ih
      simp only [hag, if_false]
      have := ih M ⟨i1, i2, by simpa using i3⟩
      simpa using this
theorem miss_ok {m t : Nat} {MC : cM} {MR : rM} (g0 : eG0 m t MC MR) : ∃ A, A ≤ 3 ∧ rg MR 1312 0 6 = nI A := by
  obtain ⟨a1, a2, a3, a4⟩ := g0.2.2.2.2 6 (by decide)
  exact eI_ofl (b := 3) a2 a4 (by decide)
theorem o_courses {n : Nat} {MC : cM} {MR : rM} (h : eRel n MC MR) : eO n (m11_courses MC) (m12_courses MR) := by
  obtain ⟨m, t, hm, ht, g0, g1, g2, g3, g4, g5, g6, g7, g8, g9⟩ := h
  obtain ⟨d, d1, d2, d3, d4⟩ := g8.1
  obtain ⟨A, hA, hA6⟩ := miss_ok g0
  obtain ⟨MC', c1, c2, c3, c4⟩ := list_c g0 g8 d3 d1 d2 hA hA6
  obtain ⟨MR', r1, r2, r3, r4⟩ := find_e (w := rg MR 12 0 71) g8 d4 d1 d2 hA hA6
  unfold m11_courses m12_courses
  rw [c1, r1, zbd_s, zbv_s]
  exact eO_fin r3.symm (eRel_fr hm ht g0 g1 g2 g3 g4 g5 g6 g7 g8 g9 c2 r2 c3 rfl rfl)
theorem o_course {n : Nat} {MC : cM} {MR : rM} (h : eRel n MC MR) (x1 x2 : Int32) : eO n (m11_course x1 x2 MC) (m12_course x1 x2 MR) := by
  obtain ⟨m, t, hm, ht, g0, g1, g2, g3, g4, g5, g6, g7, g8, g9⟩ := h
  obtain ⟨d, d1, d2, d3, d4⟩ := g8.1
  obtain ⟨A, hA, hA6⟩ := miss_ok g0
  obtain ⟨MC', c1, c2, c3, c4⟩ := list_c g0 g8 d3 d1 d2 hA hA6
  obtain ⟨MR', r1, r2, r3, r4⟩ := find_e (w := rg MR 12 0 71) g8 d4 d1 d2 hA hA6
  have hp : 6 ^ d ≤ 6 ^ 5 := Nat.pow_le_pow_right (by decide) d2
  have hp5 : (6 : Nat) ^ 5 = 7776 := by decide
  have hln := eLs_len (eQ MR (rg MR 12 0 71) A d) (6 ^ d)
  have hend : ∀ r, eO n (some (r, MC')) (some (r, MR')) := fun r => eO_fin rfl (eRel_fr hm ht g0 g1 g2 g3 g4 g5 g6 g7 g8 g9 c2 r2 c3 rfl rfl)
  have hend2 : ∀ r, eO n (some (r, MC)) (some (r, MR')) := fun r => eO_fin rfl (eRel_fr hm ht g0 g1 g2 g3 g4 g5 g6 g7 g8 g9 (eF_refl (K := [])) r2 rfl rfl rfl)
  have r3' : rg MR' 12 0 72 = nI (eLs (eQ MR (rg MR 12 0 71) A d) (6 ^ d)).length := r3
  unfold m11_course m12_course
  rcases (Classical.em (0 ≤ x2 ∧ x2 < nI d)).symm with h2 | h2
  · simp only [tk_n d3 h2, idy_n d4 d2 h2, zbd_s, zbv_s, zgd_t, Bool.and_true, Bool.true_and, Bool.and_self, if_true, if_false, e_01, eq_self, Bool.false_eq_true]
    exact eO_same ⟨m, t, hm, ht, g0, g1, g2, g3, g4, g5, g6, g7, g8, g9⟩
  obtain ⟨i, hi, rfl⟩ := eI_ofb h2.1 h2.2 (by omega)
  simp only [tk_y d3 d2 hi, idy_y d4 d2 hi, r1, zbd_s, zbv_s, zgd_t, Bool.and_true, Bool.true_and, Bool.and_self, if_true, if_false, e_01, eq_self, Bool.false_eq_true]
  obtain ⟨ln, hlnd⟩ : ∃ ln, ln = (eLs (eQ MR (rg MR 12 0 71) A d) (6 ^ d)).length := ⟨_, rfl⟩
  rw [← hlnd] at c1 r3' hln
  have hin : ¬ (0 ≤ x1 ∧ x1 < nI ln) → m12_in x1 0 (nI ln - 1) MR' = some (0, MR') := by
    intro hx
    refine in_n (fun hc => hx ⟨hc.1, ?_⟩)
    cases hz : ln with
    | zero => subst hz; exact absurd (Int32.le_trans hc.1 hc.2) (by decide)
    | succ l =>
      rw [hz, nI_sub1] at hc
      obtain ⟨a, ha, rfl⟩ := eI_ofl hc.1 hc.2 (by omega)
      rw [eI_lt (by omega) (by omega)]; omega
  by_cases hx0 : x1 < 0
  · simp only [hx0, r3', hin (fun h => absurd h.1 (Int32.not_le.mpr hx0)), zbd_s, zbv_s, zgd_t, Bool.and_true, Bool.true_and, Bool.and_self, if_true, if_false, e_01, eq_self, Bool.false_eq_true]
    exact hend2 _
  · simp only [hx0, c1, r3', zbd_s, zbv_s, zgd_t, Bool.and_true, Bool.true_and, Bool.and_self, if_true, if_false, e_01, eq_self, Bool.false_eq_true]
    by_cases hxl : x1 < nI ln
    · obtain ⟨k, hk, rfl⟩ := eI_ofb (Int32.not_lt.mp hx0) hxl (by omega)
      obtain ⟨c, hc⟩ : ∃ c, (eLs (eQ MR (rg MR 12 0 71) A d) (6 ^ d))[k]? = some c := ⟨_, List.getElem?_eq_getElem (by omega)⟩
      have hm2 := eLs_mem (List.mem_of_getElem? hc)
      have hv1 : cg MC' 510 0 k = nI c := c4 k c hc
      have hv2 : rg MR' 1373 0 k = nI c := r4 k c hc
      have h1' : cg MC' 4 0 1 = nI d := by rw [c2 4 0 1 rfl, d3]
      have h67' : rg MR' 12 0 67 = nI d := by rw [r2 12 0 67 rfl, d4]
      have hin1 : m12_in (nI k) 0 (nI ln - 1) MR' = some (1, MR') := by
        obtain ⟨l, hl⟩ : ∃ l, ln = l + 1 := ⟨ln - 1, by omega⟩
        rw [hl, nI_sub1]
        refine in_y (Int32.not_lt.mp hx0) ?_
        rw [eI_le (by omega) (by omega)]; omega
      have hspc : m4_spotOfCourse (nI k) (nI i) MC' = some (nI (eDg d c i), MC') := by
        unfold m4_spotOfCourse
        rw [if_neg hx0, if_pos (by rw [show (7776 : Int32) = nI 7776 from rfl, eI_lt (by omega) (by omega)]; omega)]
        simp only [ezin_nI (show k < 7776 by omega) (show 7776 < 2 ^ 31 by decide), ex_nI (show k < 2 ^ 31 by omega), hv1, spot_c h1' d2 hi (show c < 2 ^ 31 by omega), zbd_s, zbv_s, zgd_t, Bool.and_true, Bool.true_and, Bool.and_self, if_true, if_false, e_01, eq_self, Bool.false_eq_true]
      simp only [hxl, hin1, hspc, ezin_nI (show k < 7776 by omega) (show 7776 < 2 ^ 31 by decide), ex_nI (show k < 2 ^ 31 by omega), hv2, spot_e h67' d2 hi (show c < 2 ^ 31 by omega), zbd_s, zbv_s, zgd_t, Bool.and_true, Bool.true_and, Bool.and_self, if_true, if_false, e_01, eq_self, Bool.false_eq_true]
      exact hend _
    · simp only [hxl, hin (fun h => hxl h.2), zbd_s, zbv_s, zgd_t, Bool.and_true, Bool.true_and, Bool.and_self, if_true, if_false, e_01, eq_self, Bool.false_eq_true]
      exact hend _
