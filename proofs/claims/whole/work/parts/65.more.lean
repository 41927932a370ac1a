theorem fill504 (v : Int32) (M0 : cM) : ∃ M, mJ7_fill_504 v M0 = some M ∧ eF [504] M0 M ∧ M.2 = M0.2 ∧ ∀ j, j < 30 → cg M 504 0 j = v := by
  unfold mJ7_fill_504
  refine eloop (σ := cM) (fun f k M => ∃ M', mJ7_fill_504_5 f v (nI k) 30 M = some M' ∧ eF [504] M0 M' ∧ M'.2 = M0.2 ∧ ∀ j, j < 30 → cg M' 504 0 j = v) (fun k M => eF [504] M0 M ∧ M.2 = M0.2 ∧ ∀ j, j < k → cg M 504 0 j = v) (m := 30) (k0 := 0) (by omega) ?_ ?_ (zfu_gt (by omega)) ⟨eF_refl, rfl, fun j hj => absurd hj (by omega)⟩
  · rintro f M hI
    simp only [mJ7_fill_504_5, show ((30 : Int32) ≤ nI 30) = True from eq_true (by decide), zbd_s, zbv_s, zgd_t, Bool.and_true, Bool.true_and, Bool.and_self, if_true, if_false, e_01, eq_self, Bool.false_eq_true]
    exact ⟨M, rfl, hI⟩
  · rintro f k M _ hk ⟨h1, h2, h3⟩ ih
    simp only [mJ7_fill_504_5, show ((30 : Int32) ≤ nI k) = False from eq_false (by rw [show (30 : Int32) = nI 30 from rfl, eI_le (by omega) (by omega)]; omega), ezin_nI (show k < 30 by omega) (show 30 < 2 ^ 31 by decide), ex_nI (show k < 2 ^ 31 by omega), ep1, zbd_s, zbv_s, zgd_t, Bool.and_true, Bool.true_and, Bool.and_self, if_true, if_false, e_01, eq_self, Bool.false_eq_true]
    refine ih _ ⟨eF_cs h1 rfl, h2, fun j hj => ?_⟩
    have := h3 j
    simp only [cg_cs]; grind
theorem days24 (x : Int32) (M0 : rM) : ∃ MR', m12_days_24 zfu x 0 M0 = some (x, MR') ∧ eH [1370] M0 MR' ∧ ∀ j, j < 30 → rg MR' 1370 0 j = 2 := by
  refine eloop (σ := rM) (fun f k M => ∃ M', m12_days_24 f x (nI k) M = some (x, M') ∧ eH [1370] M0 M' ∧ ∀ j, j < 30 → rg M' 1370 0 j = 2) (fun k M => eH [1370] M0 M ∧ ∀ j, j < k → rg M 1370 0 j = 2) (m := 30) (k0 := 0) (by omega) ?_ ?_ (zfu_gt (by omega)) ⟨eH_refl, fun j hj => absurd hj (by omega)⟩
  · rintro f M hI
    simp only [m12_days_24, show ((30 : Int32) ≤ nI 30) = True from eq_true (by decide), zbd_s, zbv_s, zgd_t, Bool.and_true, Bool.true_and, Bool.and_self, if_true, if_false, e_01, eq_self, Bool.false_eq_true]
    exact ⟨M, rfl, hI⟩
  · rintro f k M _ hk ⟨h1, h3⟩ ih
    simp only [m12_days_24, show ((30 : Int32) ≤ nI k) = False from eq_false (by rw [show (30 : Int32) = nI 30 from rfl, eI_le (by omega) (by omega)]; omega), ezin_nI (show k < 30 by omega) (show 30 < 2 ^ 31 by decide), ex_nI (show k < 2 ^ 31 by omega), ep1, zbd_s, zbv_s, zgd_t, Bool.and_true, Bool.true_and, Bool.and_self, if_true, if_false, e_01, eq_self, Bool.false_eq_true]
    refine ih _ ⟨eH_rs h1 rfl, fun j hj => ?_⟩
    have := h3 j
    simp only [rg_rs]; grind
theorem o_days {n : Nat} {MC : cM} {MR : rM} (h : eRel n MC MR) (x1 : Int32) : eO n (m11_days x1 MC) (m12_days x1 MR) := by
  obtain ⟨m, t, hm, ht, g0, g1, g2, g3, g4, g5, g6, g7, g8, g9⟩ := h
  have g8' := g8
  obtain ⟨⟨d, d1, d2, d3, d4⟩, a2, a3, a4, a5, a6⟩ := g8'
  rcases (Classical.em ((1 : Int32) ≤ x1 ∧ x1 ≤ 5)).symm with h2 | h2
  · unfold m11_days m12_days
    rw [out_y h2, in_n h2]
    exact eO_same ⟨m, t, hm, ht, g0, g1, g2, g3, g4, g5, g6, g7, g8, g9⟩
  have e11 : m11_days x1 MC = zbv (m4_sitFor x1 MC) (fun M2 => some (cg MC 4 0 1, M2)) := by
    unfold m11_days; rw [out_n h2.1 h2.2, zbd_s, if_pos rfl]
  have e12 : m12_days x1 MR = m12_days_24 zfu (rg MR 12 0 67) 0 (rs MR 12 0 67 x1) := by
    unfold m12_days; rw [in_y h2.1 h2.2, zbd_s, if_neg (by decide)]
  rw [e11, e12]
  obtain ⟨q, hq, rfl⟩ := eI_ofl (b := 5) (Int32.le_trans (show (0 : Int32) ≤ 1 by decide) h2.1) h2.2 (by decide)
  have hq1 : 1 ≤ q := by
    have := h2.1
    rw [show (1 : Int32) = nI 1 from rfl, eI_le (by omega) (by omega)] at this; exact this
  obtain ⟨MC', c1, c2, c3, c4⟩ := fill504 2 (cs MC 4 0 1 (nI q))
  obtain ⟨MR', r1, r2, r3⟩ := days24 (nI d) (rs MR 12 0 67 (nI q))
  rw [d3, d4, r1, show m4_sitFor (nI q) MC = some MC' by unfold m4_sitFor; rw [c1, zbv_s], zbv_s]
  have e67 : cg (cs MC 4 0 1 (nI q)) 4 0 1 = nI q := rfl
  have fC : eF [504, 10401] MC MC' := eF_trans (eF_cs eF_refl rfl) (eF_mono c2 rfl)
  have fR : eH [1370, 11267] MR MR' := eH_trans (eH_rs eH_refl rfl) (eH_mono r2 rfl)
  have hP : ∀ k i s, cp MC' k i s = cp MC k i s := by intro k i s; unfold cp; rw [c3]; rfl
  refine eO_fin rfl ⟨m, t, hm, ht, eG0_fr g0 fC fR rfl rfl, eG1_fr g1 fC fR rfl rfl, eG2_fr g2 fC fR rfl rfl, eG3_fr g3 fC fR (fun b k => hP 901 b k) rfl rfl, eG4_fr g4 fC fR rfl rfl, eG5_fr g5 fC fR rfl rfl, eG6_fr g6 fC fR rfl rfl, eG7_mono (eG7_fr g7 fC fR rfl rfl) (by omega), ?_, eG9_fr g9 fC fR rfl rfl⟩
  refine ⟨⟨q, hq1, hq, ?_, ?_⟩, ?_, fun e he => ?_, fun j hj => ?_, fun a ha => ?_, ?_⟩
  · rw [c2 4 0 1 rfl]; rfl
  · rw [r2 12 0 67 rfl]; rfl
  · rw [fC 4 0 2 rfl, fR 12 0 71 rfl]; exact a2
  · rw [fC 503 0 e rfl, fR 1369 0 e rfl]; exact a3 e he
  · rw [c4 j hj, r3 j hj]; exact ⟨rfl, .inr (.inr rfl)⟩
  · rw [fC 505 0 a rfl, fR 1368 0 a rfl]
    refine ⟨(a5 a ha).1, fun b hb => ?_⟩
    rw [fR 1368 0 b rfl]; exact (a5 a ha).2 b hb
  · rw [hP, hP]; exact a6
theorem count_e {m : Nat} {MR : rM} (hm : m ≤ 10) (h0 : rg MR 12 0 0 = nI m) : m12_count_51 zfu 0 0 MR = some (nI (eNum m (eLiv MR)), MR) := by
  refine eloop0 (fun f k => m12_count_51 f (nI (eNum k (eLiv MR))) (nI k) MR = some (nI (eNum m (eLiv MR)), MR)) (Nat.zero_le m) ?_ ?_ (zfu_gt (by omega))
  · intro f
    simp only [m12_count_51, h0, eI_le (show m < 2 ^ 31 by omega) (show m < 2 ^ 31 by omega), show (m ≤ m) = True from eq_true (by omega), zbd_s, zbv_s, zgd_t, Bool.and_true, Bool.true_and, Bool.and_self, if_true, if_false, e_01, eq_self, Bool.false_eq_true]
  · intro f k _ hk ih
    simp only [m12_count_51, m12_count_74, h0, eI_le (show m < 2 ^ 31 by omega) (show k < 2 ^ 31 by omega), show (m ≤ k) = False from eq_false (by omega), ezin_nI (show k < 10 by omega) (show 10 < 2 ^ 31 by decide), ex_nI (show k < 2 ^ 31 by omega), ep1, zbd_s, zbv_s, zgd_t, Bool.and_true, Bool.true_and, Bool.and_self, if_true, if_false, e_01, eq_self, Bool.false_eq_true]
    rw [← ih, eNum_s]
    by_cases h : rg MR 1302 0 k ≤ 0
    · simp [h, eLiv]
    · simp [h, eLiv, ep1]
theorem o_count {n : Nat} {MC : cM} {MR : rM} (h : eRel n MC MR) (x1 : Int32) : eO n (m11_count x1 MC) (m12_count x1 MR) := by
  have h' := h
  obtain ⟨m, t, hm, ht, g0, g1, g2, g3, g4, g5, g6, g7, g8, g9⟩ := h
  obtain ⟨a, a1, a2, a3⟩ := eBc_set hm (eLiv MR)
  obtain ⟨q, q1, q2, q3, q4⟩ := g4
  obtain ⟨f, f1, f2, f3, f4⟩ := g6
  obtain ⟨⟨pn, ps, p1, p2, p3, p4, p5, p6, p7, p8⟩, p9⟩ := g7
  obtain ⟨⟨d, d1, d2, d3, d4⟩, _⟩ := g8
  have hb := bitC a1 MC
  unfold m11_count m12_count m3_countLiving
  rw [living_c hm g0 g1, a2]
  simp only [hb, a3, count_e hm g0.2.1, g0.1, g0.2.1, g0.2.2.1, g0.2.2.2.1, q2, q3, f2, f3, p4, p5, d3, d4, zbd_s, zbv_s, zgd_t, Bool.and_true, Bool.true_and, Bool.and_self, if_true, if_false, e_01, eq_self, Bool.false_eq_true]
  split
  · exact eO_same h'
  split
  · exact eO_same h'
  split
  · exact eO_same h'
  split
  · exact eO_same h'
  split
  · exact eO_same h'
  split
  · exact eO_same h'
  split
  · exact eO_same h'
  · exact eO_same h'
theorem full_c {b q : Nat} {M : cM} (hb : b < 10) (h : cg M 8 b 2 = nI q) (hq : q ≤ 4) : m8_isFull b M = some (if q = 4 then 1 else 0, M) := by
  unfold m8_isFull
  simp only [blt_t hb, h, zbd_s, zbv_s, zgd_t, Bool.and_true, Bool.true_and, Bool.and_self, if_true, if_false, e_01, eq_self, Bool.false_eq_true]
  by_cases h4 : q = 4
  · subst h4; rfl
  · rw [if_pos (by rw [show (4 : Int32) = nI 4 from rfl, eI_lt (by omega) (by omega)]; omega), if_neg h4]
theorem o_say {n : Nat} {MC : cM} {MR : rM} (h : eRel n MC MR) (x1 x2 : Int32) : eO n (m11_say x1 x2 MC) (m12_say x1 x2 MR) := by
  obtain ⟨m, t, hm, ht, g0, g1, g2, g3, g4, g5, g6, g7, g8, g9⟩ := h
  unfold m11_say m12_say
  rcases e_bx x1 m hm with hb | ⟨b, hb, rfl⟩
  · simp only [kn_n g0.1 hb, ib_n g0.2.1 hm hb, zbd_s, zbv_s, zgd_t, Bool.and_true, Bool.true_and, Bool.and_self, if_true, if_false, e_01, eq_self, Bool.false_eq_true]
    exact eO_same ⟨m, t, hm, ht, g0, g1, g2, g3, g4, g5, g6, g7, g8, g9⟩
  have hb10 : b < 10 := by omega
  simp only [kn_y g0.1 hm hb, ib_y g0.2.1 hm hb, of_y hb10, blt_t hb10, ezin_nI hb10 (show 10 < 2 ^ 31 by decide), ex_nI (show b < 2 ^ 31 by omega), zbd_s, zbv_s, zgd_t, Bool.and_true, Bool.true_and, Bool.and_self, if_true, if_false, e_01, eq_self, Bool.false_eq_true]
  rcases (Classical.em ((0 : Int32) ≤ x2 ∧ x2 ≤ 999)).symm with h2 | h2
  · simp only [out_y h2, in_n h2, zbd_s, zbv_s, zgd_t, Bool.and_true, Bool.true_and, Bool.and_self, if_true, if_false, e_01, eq_self, Bool.false_eq_true]
    exact eO_same ⟨m, t, hm, ht, g0, g1, g2, g3, g4, g5, g6, g7, g8, g9⟩
  simp only [out_n h2.1 h2.2, in_y h2.1 h2.2, zbd_s, zbv_s, zgd_t, Bool.and_true, Bool.true_and, Bool.and_self, if_true, if_false, e_01, eq_self, Bool.false_eq_true]
  simp only [eI_0 (show b < 2 ^ 31 by omega)]
  by_cases hb0 : b = 0
  · simp only [hb0, if_true]
    exact eO_same ⟨m, t, hm, ht, g0, g1, g2, g3, g4, g5, g6, g7, g8, g9⟩
  obtain ⟨q, q1, q2, q3, q4⟩ := g3.1 b hb10
  have hpw := (g1.1 b hb10).2.2.1
  have hd0 : (rg MR 1302 0 b = 0) = (rg MR 1302 0 b ≤ 0) := propext ⟨fun h => by rw [h]; decide, fun h => Int32.le_antisymm h hpw.2.1⟩
  simp only [hb0, dead_c g1 hb10, hd0, zbd_s, zbv_s, zgd_t, Bool.and_true, Bool.true_and, Bool.and_self, if_true, if_false, e_01, eq_self, Bool.false_eq_true]
  by_cases hd : rg MR 1302 0 b ≤ 0
  · simp only [hd, zbd_s, zbv_s, zgd_t, Bool.and_true, Bool.true_and, Bool.and_self, if_true, if_false, e_01, eq_self, Bool.false_eq_true]
    exact eO_same ⟨m, t, hm, ht, g0, g1, g2, g3, g4, g5, g6, g7, g8, g9⟩
  simp only [hd, full_c hb10 q2 q1, q3, show (nI q = 4) = (q = 4) from by rw [show (4 : Int32) = nI 4 from rfl, eI_inj (by omega) (by omega)], zbd_s, zbv_s, zgd_t, Bool.and_true, Bool.true_and, Bool.and_self, if_true, if_false, e_01, eq_self, Bool.false_eq_true]
  by_cases hq4 : q = 4
  · simp only [hq4, zbd_s, zbv_s, zgd_t, Bool.and_true, Bool.true_and, Bool.and_self, if_true, if_false, e_01, eq_self, Bool.false_eq_true]
    exact eO_same ⟨m, t, hm, ht, g0, g1, g2, g3, g4, g5, g6, g7, g8, g9⟩
  have hq : q < 4 := by omega
  simp only [hq4, m8_addWord, full_c hb10 q2 q1, cg_cs, rg_rs, q2, q3, e24, e6, eI_add, ep1, m12_say_95, blt_t hb10, ezin_nI (show q < 4 by omega) (show 4 < 2 ^ 31 by decide), ex_nI (show q < 2 ^ 31 by omega), ezin_nI (show b < 10 by omega) (show 10 < 2 ^ 31 by decide), ex_nI (show b < 2 ^ 31 by omega), ezin_nI (show 24 * b + 6 * q < 240 by omega) (show 240 < 2 ^ 31 by decide), ex_nI (show 24 * b + 6 * q < 2 ^ 31 by omega), ezin_nI (show 24 * b + 6 * q + 1 < 240 by omega) (show 240 < 2 ^ 31 by decide), ex_nI (show 24 * b + 6 * q + 1 < 2 ^ 31 by omega), show ((8 : Nat) = 900) = False from eq_false (by decide), show ((1314 : Nat) = 1315) = False from eq_false (by decide), false_and, and_self, zbd_s, zbv_s, zgd_t, Bool.and_true, Bool.true_and, Bool.and_self, if_true, if_false, e_01, eq_self, Bool.false_eq_true]
  have fC : eF [900, 10802] MC (cs (cs MC 900 b q x2) 8 b 2 (nI (q + 1))) := (by repeat (first | exact eF_refl | refine eF_cs ?_ rfl))
  have fR : eH [1314, 1315] MR (rs (rs (rs MR 1315 0 (24 * b + 6 * q) 0) 1315 0 (24 * b + 6 * q + 1) x2) 1314 0 b (nI (q + 1))) := (by repeat (first | exact eH_refl | refine eH_rs ?_ rfl | refine eH_rsl ?_))
  refine eO_fin rfl ⟨m, t, hm, ht, eG0_fr g0 fC fR rfl rfl, eG1_fr g1 fC fR rfl rfl, eG2_fr g2 fC fR rfl rfl, ?_, eG4_fr g4 fC fR rfl rfl, eG5_fr g5 fC fR rfl rfl, eG6_fr g6 fC fR rfl rfl, eG7_mono (eG7_fr g7 fC fR rfl rfl) (by omega), eG8_fr g8 fC fR ⟨rfl, rfl⟩ rfl rfl, eG9_fr g9 fC fR rfl rfl⟩
  obtain ⟨k1, k2, k3, k4, k5, k6, k7, k8, k9⟩ := g3
  have e9 : ∀ i s, cg (cs (cs MC 900 b q x2) 8 b 2 (nI (q + 1))) 9 i s = cg MC 9 i s := fun i s => by simp [cg_cs]
  have ep : ∀ i s, cp (cs (cs MC 900 b q x2) 8 b 2 (nI (q + 1))) 901 i s = cp MC 901 i s := fun i s => rfl
  refine ⟨fun c hc => ?_, k2, k3, k4, k5, k6, fun c hc hmc => ?_, k8, ?_⟩
  · by_cases hcb : c = b
    · subst hcb
      refine ⟨q + 1, by omega, by simp [cg_cs], by simp [rg_rs], fun k hk => ?_⟩
      by_cases hkq : k = q
      · subst hkq
        left
        have h2' := h2.1
        simp [rg_rs, cg_cs]; exact h2'
      · have := q4 k (by omega)
        unfold eEn at *
        simp only [e9, ep]
        simp only [rg_rs, cg_cs]
        rcases this with ⟨c1, c2, c3⟩ | ⟨c1, c2, c3, c4⟩
        · left; grind
        · right
          refine ⟨by grind, by grind, c3, fun s hs => ?_⟩
          rw [c4 s hs, if_neg (by omega), if_neg (by omega), if_neg (by omega)]
    · obtain ⟨q', c1, c2, c3, c4⟩ := k1 c hc
      refine ⟨q', c1, by simp [cg_cs, hcb]; exact c2, by simp [rg_rs, hcb]; exact c3, fun k hk => ?_⟩
      have := c4 k hk
      unfold eEn at *
      simp only [e9, ep]
      simp only [rg_rs, cg_cs]
      rcases this with ⟨c1, c2, c3⟩ | ⟨c1, c2, c3, c4⟩
      · left; grind
      · right
        refine ⟨by grind, by grind, c3, fun s hs => ?_⟩
        rw [c4 s hs, if_neg (by omega), if_neg (by omega), if_neg (by omega)]
  · have := k7 c hc hmc
    have hcb : c ≠ b := by omega
    simp only [cg_cs]
    simp [hcb]; exact this
  · have hx : ∀ c, c < 10 → eM1 (cs (cs MC 900 b q x2) 8 b 2 (nI (q + 1))) c = eM1 MC c := fun c _ => by
      unfold eM1; simp [cg_cs]
    have hy : ∀ c, c < 10 → c ≠ b → eM3 (cs (cs MC 900 b q x2) 8 b 2 (nI (q + 1))) c = eM3 MC c := fun c _ hcb => by
      unfold eM3
      rw [show cg (cs (cs MC 900 b q x2) 8 b 2 (nI (q + 1))) 8 c 2 = cg MC 8 c 2 by simp [cg_cs, hcb]]
      refine eSig_congr (fun k _ => ?_)
      unfold eM2; rw [e9, ep]; simp [cg_cs, hcb]
    have hz := eMs_row hb10 hx hy (e9 50 2)
    have hw : eM3 (cs (cs MC 900 b q x2) 8 b 2 (nI (q + 1))) b = eM3 MC b := by
      unfold eM3
      rw [show cg (cs (cs MC 900 b q x2) 8 b 2 (nI (q + 1))) 8 b 2 = nI (q + 1) by simp [cg_cs], q2, ex_nI (by omega), ex_nI (by omega), eSig_s]
      rw [eSig_congr (f := eM2 MC b) (fun k hk => by unfold eM2; rw [e9, ep]; simp [cg_cs, show k ≠ q by omega])]
      have : eM2 (cs (cs MC 900 b q x2) 8 b 2 (nI (q + 1))) b q = 0 := by
        unfold eM2
        rw [show cg (cs (cs MC 900 b q x2) 8 b 2 (nI (q + 1))) 900 b q = x2 by simp [cg_cs], if_neg (eNe1 h2.1)]
      omega
    omega
