/-! one tick -/
def eKT1 : List Nat := [10305, 10007, 10008, 10009, 10005, 10006, 103, 104, 10202, 10802, 900, 10900, 10901, 10902, 10903, 10904, 10214]
theorem tick_cr {m t : Nat} {MC : cM} {MR : rM} (hm : m ≤ 10) (ht : t ≤ 9000) (g0 : eG0 m t MC MR) (g1 : eG1 m MC MR) (g2 : eG2 m MC MR) (g3 : eG3 m MC MR) (g5 : eG5 MC MR) (g9 : eG9 MC MR) : ∃ MC' MR', m0_pass MC = some (cs MC' 3 0 5 (nI (t + 1))) ∧ m12_goTick (nI t) MR = some MR' ∧ eTS m MC MR MC' MR' := by
  have n10 : ((1 : Int32) = 0) = False := eq_false (by decide)
  obtain ⟨M1, N1, r1, r2, r3, r4, r5, r6, r7⟩ := rest_e (t := t) hm g0 g1
  have hp1 : ∀ kk i s, cp M1 kk i s = cp MC kk i s := fun kk i s => by unfold cp; rw [r4]
  have T1 : eTS m MC MR M1 N1 := ⟨eF_mono r3 rfl, fun kk i s _ => hp1 kk i s, eH_mono r5 rfl, r6, eG3_fr g3 r3 r5 (fun b k => hp1 901 b k) rfl rfl, eG9_fr g9 r3 r5 rfl rfl⟩
  -- the rest of a tick, behind the epoch
  have rest : ∀ M2 N2, eTS m MC MR M2 N2 → eUp m M2 N2 → ∃ MC' MR', m0_pass_25 M2 = some (cs MC' 3 0 5 (nI (t + 1))) ∧ m12_goTick_116 (nI t) N2 = some MR' ∧ eTS m MC MR MC' MR' := by
    intro M2 N2 T2 U2
    obtain ⟨f0, p0, h0, G1, G3, G9⟩ := T2
    have G0 := eG0_fr g0 f0 h0 rfl rfl
    have G2 := eG2_fr g2 f0 h0 rfl rfl
    obtain ⟨M3, N3, q1, q2, q3, q4, q5, q6⟩ := queue_cr hm ht G0 G1 G2 G3 G9.1 U2
    have G0q := eG0_fr G0 q3 q5 rfl rfl
    have G1q := eG1_fr G1 q3 q5 rfl rfl
    have G2q := eG2_fr G2 q3 q5 rfl rfl
    have U3 : eUp m M3 N3 := fun b hb => by rw [q3 0 0 7 rfl, q3 0 0 8 rfl, q5 1323 0 b rfl, q5 1322 0 b rfl]; exact U2 b hb
    have T3 : eTly M3 N3 := ty_fr (K := eKQ) (K' := [1314, 1315, 1317]) (fun j hj => G9.2.1 j hj) q3 q5 rfl rfl
    have K3 : eKp M3 N3 := kp_fr (K := eKQ) (K' := [1314, 1315, 1317]) ⟨G9.2.2.1, G9.2.2.2⟩ q3 q5 rfl rfl
    obtain ⟨Y3, m3⟩ := eG3_y.mp q6
    obtain ⟨M4, N4, s1, s2, s3, s4, s5, s6, s7, s8, s9, s10⟩ := speak_cr hm G0q G1q G2q Y3 U3 T3
    obtain ⟨S, hS⟩ : ∃ S, S = eSpk m M3 N3 := ⟨_, rfl⟩
    rw [← hS] at s7 s9 s10
    have hSm : ∀ j, m ≤ j → S j = false := fun j hj => by rw [hS]; unfold eSpk; rw [decide_eq_false (by omega), Bool.false_and]
    have hSp : ∀ j, j < m → S j = true → ¬ rg N3 1309 0 j = -1 := fun j hj h e => by
      rw [hS] at h; unfold eSpk at h
      rw [decide_eq_true e] at h
      simp at h
    have G0s := eG0_fr G0q s3 s5 rfl rfl
    have G2s := eG2_fr G2q s3 s5 rfl rfl
    have U4 : eUp m M4 N4 := fun b hb => by rw [s3 0 0 7 rfl, s3 0 0 8 rfl, s5 1323 0 b rfl, s5 1322 0 b rfl]; exact U3 b hb
    have K4 : eKp M4 N4 := kp_fr K3 s3 s5 rfl rfl
    have m4 : eMs M4 ≤ 10 := by rw [eMs_fr s3 s4 rfl]; exact m3
    obtain ⟨M5, N5, l1, l2, l3, l4, l5, l6, l7⟩ := hear_cr (S := S) hm G0s s6 U4 s9 hSm s10
    have G0l := eG0_fr G0s l3 l5 rfl rfl
    have G2l := eG2_fr G2s l3 l5 rfl rfl
    have U5 : eUp m M5 N5 := fun b hb => by rw [l3 0 0 7 rfl, l3 0 0 8 rfl, l5 1323 0 b rfl, l5 1322 0 b rfl]; exact U4 b hb
    have m5 : eMs M5 ≤ 10 := by rw [eMs_fr l3 l4 rfl]; exact m4
    obtain ⟨M6, N6, c1, c2, c3, c4, c5, c6, c7, c8⟩ := carry_cr (S := S) hm G0l l6 G2l (eG3y_fr s7 l3 l5 l4 rfl rfl rfl) m5 U5 (ty_fr s8 l3 l5 rfl rfl) (kp_fr K4 l3 l5 rfl rfl) (fun j hj => by rw [l3 0 0 9 rfl]; exact s9 j hj) hSm (fun j hj h => by rw [l5 1309 0 j rfl, s5 1309 0 j rfl]; exact hSp j hj h) (fun j hj => by rw [l5 1324 0 j rfl]; exact s10 j hj) (fun j hj => by
      rw [l7 j hj]
      have : eHrd m S N5 j = eHrd m S N4 j := by unfold eHrd; rw [l5 1307 0 j rfl]
      rw [this])
    refine ⟨M6, N6, ?_, ?_, ?_⟩
    · unfold m0_pass_25
      rw [q1, zbv_s, s1, zbv_s, l1, zbv_s, c1]
    · unfold m12_goTick_116
      rw [q2, zbv_s, s2, zbv_s, l2, zbv_s, c2]
    · have F2 : eF eKT M2 M6 := eF_trans (eF_mono q3 rfl) (eF_trans (eF_mono s3 rfl) (eF_trans (eF_mono l3 rfl) (eF_mono c3 rfl)))
      have H2 : eH eKT' N2 N6 := eH_trans (eH_mono q5 rfl) (eH_trans (eH_mono s5 rfl) (eH_trans (eH_mono l5 rfl) (eH_mono c5 rfl)))
      refine ⟨eF_trans f0 F2, fun kk i s hk => ?_, eH_trans h0 H2, eG1_fr l6 c3 c5 rfl rfl, c6, ?_, c7, c8.1, c8.2⟩
      · rw [c4 kk i s hk, show cp M5 kk i s = cp M2 kk i s by unfold cp; rw [l4, s4, q4]]; exact p0 kk i s hk
      · rw [c3 0 0 6 rfl, l3 0 0 6 rfl, s3 0 0 6 rfl, q3 0 0 6 rfl, c5 12 0 18 rfl, l5 12 0 18 rfl, s5 12 0 18 rfl, q5 12 0 18 rfl]; exact G9.1
  unfold m0_pass
  rw [r1, zbv_s, r2]
  have e35 : cg M1 3 0 5 = nI t := by rw [r3 3 0 5 rfl]; exact g0.2.2.1
  unfold m7_beginsEpoch tickEnd
  rw [e35, blt_t (show 1 < 2 by omega), Bool.and_true, zgd_t, r3 7 1 1 rfl, r5 12 0 40 rfl, r5 12 0 41 rfl]
  rcases g5 with ⟨a0, b0⟩ | ⟨a, e, c, a1, a2, a3, a4, a5, a6, a7, a8, a9, b1, b2, b3⟩
  · rw [a0, b0, if_pos (Int32.le_refl 0), if_pos (Int32.le_refl 0), zbd_s, if_pos rfl]
    exact rest M1 N1 T1 r7
  · have ha : ¬ nI a ≤ 0 := by rw [eI_pos (by omega)]; omega
    have he : ¬ nI e ≤ 0 := by rw [eI_pos (by omega)]; omega
    have hz : znz (nI e) = true := znz_pos (by rw [show (0 : Int32) = nI 0 from rfl, eI_lt (by omega) (by omega)]; omega)
    rw [a6, a8, a9, if_neg ha, if_neg he, hz]
    simp only [Bool.and_true, zgd_t]
    by_cases hr : zrem (nI t) (nI e) = 0
    · rw [if_pos hr, if_pos hr, zbd_s, if_neg (by decide)]
      obtain ⟨M2, N2, x1, x2, x3, x4⟩ := epoch_cr (c := c) hm ht T1 g0 r7 a5 b1 b2 b3
      rw [x1, x2, zbv_s, zbv_s]
      exact rest M2 N2 x3 x4
    · rw [if_neg hr, if_neg hr, zbd_s, if_pos rfl]
      exact rest M1 N1 T1 r7
/-- all groups, with their numbers -/
def eRl (n m t : Nat) (MC : cM) (MR : rM) : Prop := eG0 m t MC MR ∧ eG1 m MC MR ∧ eG2 m MC MR ∧ eG3 m MC MR ∧ eG4 MC MR ∧ eG5 MC MR ∧ eG6 m MC MR ∧ eG7 n m MC MR ∧ eG8 MC MR ∧ eG9 MC MR
theorem tick_rl {n m t : Nat} {MC : cM} {MR : rM} (hm : m ≤ 10) (ht : t + 1 ≤ 9000) (h : eRl n m t MC MR) : ∃ MC' MR', m0_pass MC = some MC' ∧ m12_goTick (nI t) MR = some MR' ∧ eRl n m (t + 1) MC' (rs MR' 12 0 13 (nI (t + 1))) ∧ rg MR' 12 0 13 = nI t := by
  obtain ⟨g0, g1, g2, g3, g4, g5, g6, g7, g8, g9⟩ := h
  obtain ⟨M, N, h1, h2, f, p, hh, G1, G3, G9⟩ := tick_cr hm (by omega) g0 g1 g2 g3 g5 g9
  have f' : eF eKT1 MC (cs M 3 0 5 (nI (t + 1))) := eF_cs (eF_mono f rfl) rfl
  have hh' : eH (11213 :: eKT') MR (rs N 12 0 13 (nI (t + 1))) := eH_rs (eH_mono hh rfl) rfl
  have fa : eF [10305] M (cs M 3 0 5 (nI (t + 1))) := (by repeat (first | exact eF_refl | refine eF_cs ?_ rfl))
  have fb : eH [11213] N (rs N 12 0 13 (nI (t + 1))) := (by repeat (first | exact eH_refl | refine eH_rs ?_ rfl | refine eH_rsl ?_))
  refine ⟨_, N, h1, h2, ⟨?_, eG1_fr G1 fa fb rfl rfl, eG2_fr g2 f' hh' rfl rfl, eG3_fr G3 fa fb (fun _ _ => rfl) rfl rfl, eG4_fr g4 f' hh' rfl rfl, eG5_fr g5 f' hh' rfl rfl, eG6_fr g6 f' hh' rfl rfl, eG7_fr g7 f' hh' rfl rfl, eG8_fr g8 f' hh' ⟨?_, ?_⟩ rfl rfl, eG9_fr G9 fa fb rfl rfl⟩, ?_⟩
  · obtain ⟨a1, a2, a3, a4, a5⟩ := g0
    refine ⟨by rw [f' 3 0 4 rfl, a1], by rw [hh' 12 0 0 rfl, a2], ?_, ?_, fun j hj => ?_⟩
    · rw [cg_cs, if_pos ⟨rfl, rfl, rfl⟩]
    · rw [rg_rs, if_pos ⟨rfl, rfl, rfl⟩]
    · rw [f' 401 0 j rfl, hh' 1312 0 j rfl]; exact a5 j hj
  · rw [cp_cs]; exact p 4 0 8 (by decide)
  · rw [cp_cs]; exact p 4 0 9 (by decide)
  · rw [hh 12 0 13 rfl]; exact g0.2.2.2.1
theorem o_ticks {n : Nat} {MC : cM} {MR : rM} (h : eRel n MC MR) (x1 : Int32) : eO n (m11_ticks x1 MC) (m12_ticks x1 MR) := by
  obtain ⟨m, t, hm, ht, g0, g1, g2, g3, g4, g5, g6, g7, g8, g9⟩ := h
  have n10 : ((1 : Int32) = 0) = False := eq_false (by decide)
  unfold m11_ticks m12_ticks
  rcases (Classical.em ((1 : Int32) ≤ x1 ∧ x1 ≤ 60)).symm with h1 | h1
  · simp only [out_y h1, in_n h1, zbd_s, zbv_s, zgd_t, Bool.and_true, Bool.true_and, Bool.and_self, if_true, if_false, e_01, eq_self, Bool.false_eq_true]
    exact eO_same ⟨m, t, hm, ht, g0, g1, g2, g3, g4, g5, g6, g7, g8, g9⟩
  simp only [out_n h1.1 h1.2, in_y h1.1 h1.2, zbd_s, zbv_s, zgd_t, Bool.and_true, Bool.true_and, Bool.and_self, if_true, if_false, e_01, eq_self, Bool.false_eq_true]
  obtain ⟨x, hx, rfl⟩ := eI_ofl (x := x1) (b := 60) (Int32.le_trans (by decide) h1.1) h1.2 (by decide)
  simp only [n10, g0.2.2.1, g0.2.2.2.1, eI_add, show (nI (t + x) ≤ (9000 : Int32)) = (t + x ≤ 9000) from by rw [show (9000 : Int32) = nI 9000 from rfl, eI_le (by omega) (by omega)], zbd_s, zbv_s, zgd_t, Bool.and_true, Bool.true_and, Bool.and_self, if_true, if_false, e_01, eq_self, Bool.false_eq_true]
  by_cases hl : t + x ≤ 9000
  · simp only [hl, zbd_s, zbv_s, zgd_t, Bool.and_true, Bool.true_and, Bool.and_self, if_true, if_false, e_01, eq_self, Bool.false_eq_true]
    refine eloop (σ := cM × rM) (fun f k s => eO n (m11_ticks_30 f (nI x) (nI k) s.1) (m12_ticks_27 f (nI x) (nI k) s.2)) (fun k s => eRl n m (t + k) s.1 s.2) (s := (MC, MR)) (m := x) (k0 := 0) (by omega) ?_ ?_ (zfu_gt (by omega)) ⟨g0, g1, g2, g3, g4, g5, g6, g7, g8, g9⟩
    · rintro f ⟨M, N⟩ hI
      dsimp only at hI ⊢
      have hI' := hI
      obtain ⟨G0, G1, G2, G3, G4, G5, G6, G7, G8, G9⟩ := hI'
      rw [m11_ticks_30, m12_ticks_27, if_pos (Int32.le_refl _), if_pos (Int32.le_refl _), G0.2.2.1, G0.2.2.2.1]
      exact eO_same ⟨m, t + x, hm, hl, G0, G1, G2, G3, G4, G5, G6, G7, G8, G9⟩
    · rintro f k ⟨M, N⟩ hk0 hk hI ih
      dsimp only at hI ⊢
      obtain ⟨M', N', a1, a2, a3, a4⟩ := tick_rl hm (show t + k + 1 ≤ 9000 by omega) hI
      have e13 : rg N 12 0 13 = nI (t + k) := hI.1.2.2.2.1
      have hnl : ¬ nI x ≤ nI k := by rw [eI_le (by omega) (by omega)]; omega
      rw [m11_ticks_30, m12_ticks_27, if_neg hnl, if_neg hnl, a1, zbv_s, e13, a2, zbv_s, a4, ep1, ep1]
      exact ih (M', _) a3
  · simp only [hl, zbd_s, zbv_s, zgd_t, Bool.and_true, Bool.true_and, Bool.and_self, if_true, if_false, e_01, eq_self, Bool.false_eq_true]
    exact eO_same ⟨m, t, hm, ht, g0, g1, g2, g3, g4, g5, g6, g7, g8, g9⟩
