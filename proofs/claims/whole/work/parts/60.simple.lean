theorem eO_fin {n : Nat} {r r' : Int32} {MC : cM} {MR : rM} (hr : r = r') (h : eRel (n + 1) MC MR) : eO n (some (r, MC)) (some (r', MR)) := ⟨r, MC, MR, rfl, by rw [hr], h⟩
theorem o_sleep {n : Nat} {MC : cM} {MR : rM} (h : eRel n MC MR) (x1 x2 x3 : Int32) : eO n (m11_sleep x1 x2 x3 MC) (m12_sleep x1 x2 x3 MR) := by
  obtain ⟨m, t, hm, ht, g0, g1, g2, g3, g4, g5, g6, g7, g8, g9⟩ := h
  unfold m11_sleep m12_sleep
  rcases e_bx x1 m hm with hb | ⟨b, hb, rfl⟩
  · simp only [kn_n g0.1 hb, ib_n g0.2.1 hm hb, zbd_s, zbv_s, zgd_t, Bool.and_true, Bool.true_and, Bool.and_self, if_true, if_false, e_01]
    exact eO_same ⟨m, t, hm, ht, g0, g1, g2, g3, g4, g5, g6, g7, g8, g9⟩
  · simp only [kn_y g0.1 hm hb, ib_y g0.2.1 hm hb, of_y (show b < 10 by omega), blt_t (show b < 10 by omega), ezin_nI (show b < 10 by omega) (by omega), ex_nI (show b < 2 ^ 31 by omega), zbd_s, zbv_s, zgd_t, Bool.and_true, Bool.true_and, Bool.and_self, if_true, if_false, e_01]
    rcases (Classical.em ((1 : Int32) ≤ x2 ∧ x2 ≤ 12)).symm with h2 | h2
    · simp only [out_y h2, in_n h2, zbd_s, zbv_s, zgd_t, Bool.and_true, Bool.true_and, Bool.and_self, if_true, if_false, e_01]
      exact eO_same ⟨m, t, hm, ht, g0, g1, g2, g3, g4, g5, g6, g7, g8, g9⟩
    simp only [out_n h2.1 h2.2, in_y h2.1 h2.2, zbd_s, zbv_s, zgd_t, Bool.and_true, Bool.true_and, Bool.and_self, if_true, if_false, e_01]
    rcases (Classical.em ((0 : Int32) ≤ x3 ∧ x3 ≤ zshl 1 x2 - 1)).symm with h3 | h3
    · simp only [out_y h3, in_n h3, zbd_s, zbv_s, zgd_t, Bool.and_true, Bool.true_and, Bool.and_self, if_true, if_false, e_01]
      exact eO_same ⟨m, t, hm, ht, g0, g1, g2, g3, g4, g5, g6, g7, g8, g9⟩
    simp only [out_n h3.1 h3.2, in_y h3.1 h3.2, zbd_s, zbv_s, zgd_t, Bool.and_true, Bool.true_and, Bool.and_self, if_true, if_false, e_01]
    refine eO_fin rfl ⟨m, t, hm, ht, eG0_fr g0 (K := [10203, 10204]) (K' := [1303, 1304]) (by repeat (first | exact eF_refl | refine eF_cs ?_ rfl)) (by repeat (first | exact eH_refl | refine eH_rs ?_ rfl | refine eH_rsl ?_)) rfl rfl, ?_, eG2_fr g2 (K := [10203, 10204]) (K' := [1303, 1304]) (by repeat (first | exact eF_refl | refine eF_cs ?_ rfl)) (by repeat (first | exact eH_refl | refine eH_rs ?_ rfl | refine eH_rsl ?_)) rfl rfl, eG3_fr g3 (K := [10203, 10204]) (K' := [1303, 1304]) (by repeat (first | exact eF_refl | refine eF_cs ?_ rfl)) (by repeat (first | exact eH_refl | refine eH_rs ?_ rfl | refine eH_rsl ?_)) (fun _ _ => rfl) rfl rfl, eG4_fr g4 (K := [10203, 10204]) (K' := [1303, 1304]) (by repeat (first | exact eF_refl | refine eF_cs ?_ rfl)) (by repeat (first | exact eH_refl | refine eH_rs ?_ rfl | refine eH_rsl ?_)) rfl rfl, eG5_fr g5 (K := [10203, 10204]) (K' := [1303, 1304]) (by repeat (first | exact eF_refl | refine eF_cs ?_ rfl)) (by repeat (first | exact eH_refl | refine eH_rs ?_ rfl | refine eH_rsl ?_)) rfl rfl, eG6_fr g6 (K := [10203, 10204]) (K' := [1303, 1304]) (by repeat (first | exact eF_refl | refine eF_cs ?_ rfl)) (by repeat (first | exact eH_refl | refine eH_rs ?_ rfl | refine eH_rsl ?_)) rfl rfl, eG7_mono (eG7_fr g7 (K := [10203, 10204]) (K' := [1303, 1304]) (by repeat (first | exact eF_refl | refine eF_cs ?_ rfl)) (by repeat (first | exact eH_refl | refine eH_rs ?_ rfl | refine eH_rsl ?_)) rfl rfl) (Nat.le_succ n), eG8_fr g8 (K := [10203, 10204]) (K' := [1303, 1304]) (by repeat (first | exact eF_refl | refine eF_cs ?_ rfl)) (by repeat (first | exact eH_refl | refine eH_rs ?_ rfl | refine eH_rsl ?_)) ⟨rfl, rfl⟩ rfl rfl, eG9_fr g9 (K := [10203, 10204]) (K' := [1303, 1304]) (by repeat (first | exact eF_refl | refine eF_cs ?_ rfl)) (by repeat (first | exact eH_refl | refine eH_rs ?_ rfl | refine eH_rsl ?_)) rfl rfl⟩
    unfold eG1 at *
    simp only [cg_cs, rg_rs]
    grind
