theorem eRel_fr {n m t : Nat} {MC MC' : cM} {MR MR' : rM} (hm : m ≤ 10) (ht : t ≤ 9000) (g0 : eG0 m t MC MR) (g1 : eG1 m MC MR) (g2 : eG2 m MC MR) (g3 : eG3 m MC MR) (g4 : eG4 MC MR) (g5 : eG5 MC MR) (g6 : eG6 m MC MR) (g7 : eG7 n m MC MR) (g8 : eG8 MC MR) (g9 : eG9 MC MR) {K K' : List Nat} (fC : eF K MC MC') (fR : eH K' MR MR') (hP : MC'.2 = MC.2) (d : eDj K [10304, 10305, 401, 10200, 10201, 10202, 10203, 10204, 10205, 10206, 10209, 10210, 10211, 312, 10207, 10208, 10802, 900, 10900, 10901, 10902, 10903, 10904, 10214, 10005, 10006, 103, 104, 11001, 1100, 10750, 10751, 10752, 20803, 20804, 20805, 10106, 201, 202, 203, 204, 205, 10601, 10602, 10603, 10216, 10218, 317, 10401, 10402, 503, 504, 505] = true) (d' : eDj K' [11200, 11213, 1312, 1301, 1302, 1303, 1304, 1305, 1306, 1307, 1344, 1345, 1358, 1308, 1309, 1314, 1315, 1316, 1317, 11218, 1319, 11220, 1321, 11228, 1329, 11240, 11241, 11242, 1343, 11251, 1352, 1353, 1354, 1355, 1356, 11259, 11260, 11261, 1362, 1364, 1366, 11267, 11271, 1368, 1369, 1370] = true) : eRel (n + 1) MC' MR' := by
  have hP' : ∀ k i s, cp MC' k i s = cp MC k i s := by intro k i s; unfold cp; rw [hP]
  have sub : ∀ (K L L' : List Nat), eDj K L = true → L'.all (fun x => L.contains x) = true → eDj K L' = true := by
    intro K L L' h h2
    unfold eDj at *
    rw [List.all_eq_true] at *
    intro x hx
    exact h x (by simpa using h2 x hx)
  exact ⟨m, t, hm, ht, eG0_fr g0 fC fR (sub _ _ _ d rfl) (sub _ _ _ d' rfl), eG1_fr g1 fC fR (sub _ _ _ d rfl) (sub _ _ _ d' rfl), eG2_fr g2 fC fR (sub _ _ _ d rfl) (sub _ _ _ d' rfl), eG3_fr g3 fC fR (fun b k => hP' 901 b k) (sub _ _ _ d rfl) (sub _ _ _ d' rfl), eG4_fr g4 fC fR (sub _ _ _ d rfl) (sub _ _ _ d' rfl), eG5_fr g5 fC fR (sub _ _ _ d rfl) (sub _ _ _ d' rfl), eG6_fr g6 fC fR (sub _ _ _ d rfl) (sub _ _ _ d' rfl), eG7_mono (eG7_fr g7 fC fR (sub _ _ _ d rfl) (sub _ _ _ d' rfl)) (by omega), eG8_fr g8 fC fR ⟨hP' 4 0 8, hP' 4 0 9⟩ (sub _ _ _ d rfl) (sub _ _ _ d' rfl), eG9_fr g9 fC fR (sub _ _ _ d rfl) (sub _ _ _ d' rfl)⟩
theorem lifeW_c {b c : Nat} (hb : b < 10) (hc : c < 10) (M : cM) : m5_lifeWith (nI b) (nI c) M = some (cg M 602 0 (10 * b + c), M) := by
  unfold m5_lifeWith
  rw [e10, eI_add, if_neg, if_neg]
  · simp only [ezin_nI (show 10 * b + c < 100 by omega) (show 100 < 2 ^ 31 by decide), ex_nI (show 10 * b + c < 2 ^ 31 by omega), zbd_s, zbv_s, zgd_t, Bool.and_true, Bool.true_and, Bool.and_self, if_true, if_false, e_01, eq_self, Bool.false_eq_true]
  · rw [show (100 : Int32) = nI 100 from rfl, eI_le (by omega) (by omega)]; omega
  · rw [show (0 : Int32) = nI 0 from rfl, eI_lt (by omega) (by omega)]; omega
theorem o_life {n : Nat} {MC : cM} {MR : rM} (h : eRel n MC MR) (x1 : Int32) : eO n (m11_life x1 MC) (m12_life x1 MR) := by
  obtain ⟨m, t, hm, ht, g0, g1, g2, g3, g4, g5, g6, g7, g8, g9⟩ := h
  unfold m11_life m12_life
  rcases e_bx x1 m hm with hb | ⟨b, hb, rfl⟩
  · simp only [kn_n g0.1 hb, ib_n g0.2.1 hm hb, zbd_s, zbv_s, zgd_t, Bool.and_true, Bool.true_and, Bool.and_self, if_true, if_false, e_01, eq_self, Bool.false_eq_true]
    exact eO_same ⟨m, t, hm, ht, g0, g1, g2, g3, g4, g5, g6, g7, g8, g9⟩
  have hb10 : b < 10 := by omega
  simp only [kn_y g0.1 hm hb, ib_y g0.2.1 hm hb, of_y hb10, blt_t hb10, ezin_nI hb10 (show 10 < 2 ^ 31 by decide), ex_nI (show b < 2 ^ 31 by omega), zbd_s, zbv_s, zgd_t, Bool.and_true, Bool.true_and, Bool.and_self, if_true, if_false, e_01, eq_self, Bool.false_eq_true]
  have hkid := eKid_lt hm g2 hb
  have key : ∀ hp : Bool, eO n (zbd (m5_lifeNow_22 (nI b) (nI b) (if hp then 1 else 0) MC) (fun r1 M1 => some (r1, M1))) (m12_life_25 (nI b) (nI b) (if hp then 1 else 0) MR) := by
    intro hp
    obtain ⟨MC', e1, i1, i2, i3, i4⟩ := lives_c hm g0 g1 g5 hb hp
    unfold m5_lifeNow_22 m12_life_25
    rw [e1, zbv_s, kid_c hm (eG0_fr g0 i1 (eH_refl (K := [])) rfl rfl) (eG2_fr g2 i1 (eH_refl (K := [])) rfl rfl), zbd_s, lifeW_c hb10 hkid, zbd_s, zbd_s, kid_e hm g0.2.1, zbd_s, life_e hm g0 g1 g5 hb _ (by omega) hp, zbd_s]
    exact eO_fin (i3 _ (by omega) hkid) (eRel_fr hm ht g0 g1 g2 g3 g4 g5 g6 g7 g8 g9 i1 (eH_refl (K := [])) i2 rfl rfl)
  simp only [m5_lifeNow, of_y hb10, blt_t hb10, (g2.1 b hb).1, zbd_s, zbv_s, zgd_t, Bool.and_true, Bool.true_and, Bool.and_self, if_true, if_false, e_01, eq_self, Bool.false_eq_true]
  by_cases hpar : rg MR 1309 0 b = -1
  · simp only [hpar, if_true]
    exact key false
  · simp only [hpar, if_false]
    exact key true
