theorem b255 (y : Int64) : ∃ a : Nat, a < 256 ∧ (y &&& 255).toInt32 = nI a := by
  refine eb_lt (k := 8) (by decide) (fun j hj => ?_)
  unfold eb
  have e : (y &&& 255).toInt32.toBitVec = ((y &&& 255).toBitVec).signExtend 32 := rfl
  rw [e, BitVec.getLsbD_signExtend]
  by_cases h32 : j < 32
  · have h64 : j < 64 := by omega
    have h255 : ∀ j : Nat, j < 64 → 8 ≤ j → (255 : Int64).toBitVec.getLsbD j = false := by decide +kernel
    rw [Int64.toBitVec_and, BitVec.getLsbD_and, h255 j h64 hj]
    simp [h64]
  · simp [h32]
def eByt (y : Int64) (i : Nat) : Int32 := Int64.toInt32 ((zshrL y (nI (8 * i))) &&& (255 : Int64))
theorem eByt_ok (y : Int64) (i : Nat) : 0 ≤ eByt y i ∧ eByt y i ≤ 255 := by
  obtain ⟨a, h1, h2⟩ := b255 (zshrL y (nI (8 * i)))
  unfold eByt
  rw [h2, show (0 : Int32) = nI 0 from rfl, show (255 : Int32) = nI 255 from rfl, eI_le (by omega) (by omega), eI_le (by omega) (by omega)]
  omega
theorem e8 (a : Nat) : (8 : Int32) * nI a = nI (8 * a) := by rw [show (8 : Int32) = nI 8 from rfl, eI_mul]
theorem eRel_text {n m t : Nat} {MC MC' : cM} {MR MR' : rM} (hm : m ≤ 10) (ht : t ≤ 9000) (g0 : eG0 m t MC MR) (g1 : eG1 m MC MR) (g2 : eG2 m MC MR) (g3 : eG3 m MC MR) (g5 : eG5 MC MR) (g6 : eG6 m MC MR) (g7 : eG7 n m MC MR) (g8 : eG8 MC MR) (g9 : eG9 MC MR) (fC : eF [1100, 11001] MC MC') (fR : eH [1329, 11228] MR MR') (hP : MC'.2 = MC.2) (g4 : eG4 MC' MR') : eRel (n + 1) MC' MR' := by
  have hP' : ∀ k i s, cp MC' k i s = cp MC k i s := by intro k i s; unfold cp; rw [hP]
  exact ⟨m, t, hm, ht, eG0_fr g0 fC fR rfl rfl, eG1_fr g1 fC fR rfl rfl, eG2_fr g2 fC fR rfl rfl, eG3_fr g3 fC fR (fun b k => hP' 901 b k) rfl rfl, g4, eG5_fr g5 fC fR rfl rfl, eG6_fr g6 fC fR rfl rfl, eG7_mono (eG7_fr g7 fC fR rfl rfl) (by omega), eG8_fr g8 fC fR ⟨hP' 4 0 8, hP' 4 0 9⟩ rfl rfl, eG9_fr g9 fC fR rfl rfl⟩
theorem o_write {n : Nat} {MC : cM} {MR : rM} (h : eRel n MC MR) (x1 : Int64) (x3 : Int32) : eO n (m11_write x1 x3 MC) (m12_write x1 x3 MR) := by
  obtain ⟨m, t, hm, ht, g0, g1, g2, g3, g4, g5, g6, g7, g8, g9⟩ := h
  have g4' := g4
  obtain ⟨q, q1, q2, q3, q4⟩ := g4'
  unfold m11_write m12_write
  rcases (Classical.em ((1 : Int32) ≤ x3 ∧ x3 ≤ 8)).symm with h2 | h2
  · simp only [out_y h2, in_n h2, zbd_s, zbv_s, zgd_t, Bool.and_true, Bool.true_and, Bool.and_self, if_true, if_false, e_01, eq_self, Bool.false_eq_true]
    exact eO_same ⟨m, t, hm, ht, g0, g1, g2, g3, g4, g5, g6, g7, g8, g9⟩
  simp only [out_n h2.1 h2.2, in_y h2.1 h2.2, zbd_s, zbv_s, zgd_t, Bool.and_true, Bool.true_and, Bool.and_self, if_true, if_false, e_01, eq_self, Bool.false_eq_true]
  obtain ⟨w, hw, rfl⟩ := eI_ofl (b := 8) (Int32.le_trans (show (0 : Int32) ≤ 1 by decide) h2.1) h2.2 (by decide)
  simp only [q2, q3, eI_add, show (nI (q + w) ≤ 120) = (q + w ≤ 120) from by rw [show (120 : Int32) = nI 120 from rfl, eI_le (by omega) (by omega)]]
  by_cases hq : q + w ≤ 120
  · simp only [hq, if_true]
    refine eloop (σ := cM × rM) (fun f k s => eO n (m11_write_33 f x1 (nI w) (nI k) s.1) (m12_write_30 f x1 (nI w) (nI k) s.2)) (fun k s => eF [1100, 11001] MC s.1 ∧ s.1.2 = MC.2 ∧ eH [1329] MR s.2 ∧ cg s.1 10 0 1 = nI (q + k) ∧ ∀ j, j < q + k → cg s.1 1100 0 j = rg s.2 1329 0 j ∧ 0 ≤ rg s.2 1329 0 j ∧ rg s.2 1329 0 j ≤ 255) (m := w) (k0 := 0) (s := (MC, MR)) (by omega) ?_ ?_ (zfu_gt (by omega)) ⟨eF_refl, rfl, eH_refl, q2, q4⟩
    · rintro f ⟨M, N⟩ ⟨i1, i2, i3, i4, i5⟩
      have e28 : rg N 12 0 28 = nI q := by rw [i3 12 0 28 rfl, q3]
      dsimp only at i4 i5 ⊢
      simp only [m11_write_33, m12_write_30, eI_le (show w < 2 ^ 31 by omega) (show w < 2 ^ 31 by omega), show (w ≤ w) = True from eq_true (by omega), i4, e28, eI_add, zbd_s, zbv_s, zgd_t, Bool.and_true, Bool.true_and, Bool.and_self, if_true, if_false, e_01, eq_self, Bool.false_eq_true]
      refine eO_fin rfl (eRel_text hm ht g0 g1 g2 g3 g5 g6 g7 g8 g9 i1 (eH_rs (eH_mono i3 rfl) rfl) i2 ⟨q + w, hq, i4, rfl, i5⟩)
    · rintro f k ⟨M, N⟩ _ hk ⟨i1, i2, i3, i4, i5⟩ ih
      have e28 : rg N 12 0 28 = nI q := by rw [i3 12 0 28 rfl, q3]
      dsimp only at i4 i5 ⊢
      have hb := eByt_ok x1 k
      simp only [m11_write_33, m12_write_30, m10_add, eI_le (show w < 2 ^ 31 by omega) (show k < 2 ^ 31 by omega), show (w ≤ k) = False from eq_false (by omega), i4, e28, eI_add, e8, ep1, show (nI (q + k) < 120) = True from eq_true (by rw [show (120 : Int32) = nI 120 from rfl, eI_lt (by omega) (by omega)]; omega), ezin_nI (show q + k < 120 by omega) (show 120 < 2 ^ 31 by decide), ex_nI (show q + k < 2 ^ 31 by omega), cg_cs, show ((10 : Nat) = 1100) = False from eq_false (by decide), false_and, zbd_s, zbv_s, zgd_t, Bool.and_true, Bool.true_and, Bool.and_self, if_true, if_false, e_01, eq_self, Bool.false_eq_true]
      refine ih (cs (cs M 1100 0 (q + k) (eByt x1 k)) 10 0 1 (nI (q + k + 1)), rs N 1329 0 (q + k) (eByt x1 k)) ⟨eF_cs (eF_cs i1 rfl) rfl, i2, eH_rs i3 rfl, rfl, fun j hj => ?_⟩
      by_cases hjq : j = q + k
      · subst hjq; simp [cg_cs, rg_rs]; exact hb
      · have := i5 j (by omega)
        simp [cg_cs, rg_rs, hjq]; exact this
  · simp only [hq, if_false]
    exact eO_same ⟨m, t, hm, ht, g0, g1, g2, g3, g4, g5, g6, g7, g8, g9⟩
