/-! an epoch begins, the class -/
def eKE : List Nat := [10802, 900, 10900, 10901, 10902, 10903, 10904, 10214, 103]
/-- boxes before k have begun the epoch -/
def eBg (k c t : Nat) (Q : Nat → Nat) (MR : rM) (M0 M : cM) : Prop := eF eKE M0 M ∧ (∀ kk i s, ¬ kk = 901 → cp M kk i s = cp M0 kk i s) ∧ (∀ b, b < k → eFw b (Q b) (eCmp (fun j => cg M0 900 b j) (Q b)).length M0 M ∧ cg M 2 b 14 = 0 ∧ ∀ s, s < 5 → cg M 9 b s = if b = 0 then 0 else eSs (eVu MR c t b) b s) ∧ (∀ i, k ≤ i → cg M 8 i 2 = cg M0 8 i 2 ∧ cg M 2 i 14 = cg M0 2 i 14 ∧ (∀ j, cg M 900 i j = cg M0 900 i j) ∧ (i ≠ 50 → ∀ s, cg M 9 i s = cg M0 9 i s) ∧ ∀ s, cp M 901 i s = cp M0 901 i s) ∧ (∀ b, b < 10 → ePb b M) ∧ (∀ s, s < 5 → cg M 9 50 s = if 0 < k then eSs (eVu MR c t 0) 0 s else 0) ∧ cg M 103 0 5 = cg M0 103 0 5 + nI (eSig k (fun b => eUn MR b + (Q b - (eCmp (fun j => cg M0 900 b j) (Q b)).length))) ∧ ∀ j, j ≠ 5 → cg M 103 0 j = cg M0 103 0 j
theorem eBg_step {k c t q' : Nat} {Q : Nat → Nat} {MR : rM} {M0 M M' : cM} (hk : k < 10) (h : eBg k c t Q MR M0 M) (f1 : eF eKE M M') (f2 : ∀ kk i s, ¬ (kk = 901 ∧ i = k) → cp M' kk i s = cp M kk i s) (f3 : ∀ i, i ≠ k → cg M' 8 i 2 = cg M 8 i 2 ∧ cg M' 2 i 14 = cg M 2 i 14 ∧ (∀ j, cg M' 900 i j = cg M 900 i j) ∧ (i ≠ 50 → ∀ s, cg M' 9 i s = cg M 9 i s)) (f4 : cg M' 2 k 14 = 0) (f5 : eFw k (Q k) q' M M') (f6 : ePb k M') (f7 : ∀ s, s < 5 → cg M' 9 k s = if k = 0 then 0 else eSs (eVu MR c t k) k s) (f8 : ∀ s, s < 5 → cg M' 9 50 s = if k = 0 then eSs (eVu MR c t 0) 0 s else cg M 9 50 s) (f9 : cg M' 103 0 5 = cg M 103 0 5 + nI (eUn MR k + (Q k - q'))) (f10 : ∀ j, j ≠ 5 → cg M' 103 0 j = cg M 103 0 j) : eBg (k + 1) c t Q MR M0 M' := by
  obtain ⟨i1, i2, i3, i4, i5, i6, i7, i8⟩ := h
  have h900 : ∀ n, eCmp (fun j => cg M 900 k j) n = eCmp (fun j => cg M0 900 k j) n := fun n => eCmp_congr (fun j _ => (i4 k (Nat.le_refl k)).2.2.1 j)
  have hq' : q' = (eCmp (fun j => cg M0 900 k j) (Q k)).length := by
    obtain ⟨-, -, w3, w4⟩ := f5
    rw [← h900, ← w4, (eCmp_all w3).1]
  refine ⟨eF_trans i1 f1, fun kk i s hkk => by rw [f2 kk i s (fun h => hkk h.1), i2 kk i s hkk], fun b hb => ?_, fun i hi => ?_, fun b hb => ?_, fun s hs => ?_, ?_, fun j hj => by rw [f10 j hj, i8 j hj]⟩
  · by_cases hbk : b = k
    · subst hbk
      refine ⟨?_, f4, f7⟩
      obtain ⟨w1, w2, w3, w4⟩ := f5
      rw [hq'] at w1 w2 w3 w4
      exact ⟨w1, w2, w3, by rw [w4, h900]⟩
    · obtain ⟨⟨w1, w2, w3, w4⟩, a2, a3⟩ := i3 b (by omega)
      obtain ⟨g1, g2, g3, g4⟩ := f3 b hbk
      refine ⟨⟨w1, by rw [g1, w2], fun j hj => by rw [g3]; exact w3 j hj, Eq.trans (eCmp_congr (fun j _ => g3 j)) w4⟩, by rw [g2, a2], fun s hs => by rw [g4 (by omega), a3 s hs]⟩
  · obtain ⟨g1, g2, g3, g4⟩ := f3 i (by omega)
    obtain ⟨h1, h2, h3, h4, h5⟩ := i4 i (by omega)
    exact ⟨by rw [g1, h1], by rw [g2, h2], fun j => by rw [g3, h3], fun hi s => by rw [g4 hi, h4 hi], fun s => by rw [f2 901 i s (fun h => by omega), h5]⟩
  · by_cases hbk : b = k
    · subst hbk; exact f6
    · have := i5 b hb
      unfold ePb at *
      have hh : ∀ j, cp M' 901 b j = cp M 901 b j := fun j => f2 901 b j (fun h => hbk h.2)
      simp only [hh]
      exact this
  · rw [if_pos (show 0 < k + 1 by omega), f8 s hs]
    by_cases hk0 : k = 0
    · rw [if_pos hk0]
    · rw [if_neg hk0, i6 s hs, if_pos (show 0 < k by omega)]
  · rw [f9, i7, Int32.add_assoc, eI_add, eSig_s, hq']
theorem uns_c {b mn : Nat} {MC : cM} {MR : rM} (hb : b < 10) (hmn : mn ≤ 10) (h2 : cg MC 9 b 2 = nI mn) (e1 : rg MR 1316 0 (5 * b + 2) = cg MC 9 b 2) (e2 : rg MR 1317 0 b = cg MC 2 b 14) : m2_hasUnsaidSum b MC = some (nI (eUn MR b), MC) := by
  have n10 : ((1 : Int32) = 0) = False := eq_false (by decide)
  unfold m2_hasUnsaidSum eUn
  rw [e1, e2, h2]
  simp only [blt_t hb, blt_t (show b < 51 by omega), empty9_c (show b < 51 by omega), h2, eI_pos (show mn < 2 ^ 31 by omega), eI_0 (show mn < 2 ^ 31 by omega), zbd_s, zbv_s, zgd_t, Bool.and_true, Bool.true_and, Bool.and_self, if_true, if_false, e_01, eq_self, Bool.false_eq_true]
  by_cases h0 : mn = 0
  · simp only [h0, n10, zbd_s, zbv_s, zgd_t, Bool.and_true, Bool.true_and, Bool.and_self, if_true, if_false, e_01, eq_self, Bool.false_eq_true]; rfl
  · simp only [h0, zbd_s, zbv_s, zgd_t, Bool.and_true, Bool.true_and, Bool.and_self, if_true, if_false, e_01, eq_self, Bool.false_eq_true]
    by_cases h1 : cg MC 2 b 14 = 0
    · simp only [h1, zbd_s, zbv_s, zgd_t, Bool.and_true, Bool.true_and, Bool.and_self, if_true, if_false, e_01, eq_self, Bool.false_eq_true]; rfl
    · simp only [h1, zbd_s, zbv_s, zgd_t, Bool.and_true, Bool.true_and, Bool.and_self, if_true, if_false, e_01, eq_self, Bool.false_eq_true]; rfl
theorem epoch_c {m t c : Nat} {Q : Nat → Nat} {M0 : cM} {MR : rM} (hm : m ≤ 10) (ht : t ≤ 9000) (hc : c ≤ 8) (h34 : cg M0 3 0 4 = nI m) (h35 : cg M0 3 0 5 = nI t) (g1 : eG1 m M0 MR) (hup : eUp m M0 MR) (h7 : cg M0 7 1 2 = nI c) (hd : ∀ k, k < c → eCd 1 1343 k M0 MR) (hQ : ∀ b, b < m → Q b ≤ 4 ∧ cg M0 8 b 2 = nI (Q b)) (hP : ∀ b, b < 10 → ePb b M0) (h9 : ∀ b, b < 10 → rg MR 1316 0 (5 * b + 2) = cg M0 9 b 2 ∧ rg MR 1317 0 b = cg M0 2 b 14) (hs : ∀ i, i < 51 → eSm i M0) (h50 : ∀ s, s < 5 → cg M0 9 50 s = 0) : ∃ M', m0_beginEpoch_20 zfu 0 M0 = some M' ∧ eBg m c t Q MR M0 M' := by
  have n10 : ((1 : Int32) = 0) = False := eq_false (by decide)
  have e5 : nx (5 : Int32) = 5 := rfl
  have z5 : zin (5 : Int32) 8 = true := by decide
  refine eloop (σ := cM) (fun f k M => ∃ M', m0_beginEpoch_20 f (nI k) M = some M' ∧ eBg m c t Q MR M0 M') (fun k M => eBg k c t Q MR M0 M) (m := m) (k0 := 0) (by omega) ?_ ?_ (zfu_gt (by omega)) ⟨eF_refl, fun _ _ _ _ => rfl, fun b hb => absurd hb (by omega), fun _ _ => ⟨rfl, rfl, fun _ => rfl, fun _ _ => rfl, fun _ => rfl⟩, hP, fun s hs => by rw [if_neg (by omega)]; exact h50 s hs, ?_, fun _ _ => rfl⟩
  · rintro f M hI
    refine ⟨M, ?_, hI⟩
    rw [m0_beginEpoch_20, hI.1 3 0 4 rfl, h34, if_pos (by rw [eI_le (by omega) (by omega)]; omega)]
  · rintro f k M hk0 hk hI ih
    have hk10 : k < 10 := by omega
    have hI' := hI
    obtain ⟨i1, i2, i3, i4, i5, i6, i7, i8⟩ := hI
    have e34 : cg M 3 0 4 = nI m := by rw [i1 3 0 4 rfl, h34]
    obtain ⟨mn, al, s1, s2, s3, s4, -⟩ := hs k (by omega)
    obtain ⟨o1, o2, o3, o4, o5⟩ := i4 k (Nat.le_refl k)
    have hun := uns_c (MC := M) (MR := MR) hk10 s1 (by rw [o4 (by omega), s3]) (by rw [(h9 k hk10).1, o4 (by omega)]) (by rw [(h9 k hk10).2, o2])
    have hun1 : eUn MR k = 0 ∨ eUn MR k = 1 := by
      unfold eUn
      split
      · exact .inl rfl
      · split
        · exact .inr rfl
        · exact .inl rfl
    -- the rest of one box
    have body : ∀ M1, eF [103] M M1 → M1.2 = M.2 → cg M1 103 0 5 = cg M 103 0 5 + nI (eUn MR k) → (∀ j, j ≠ 5 → cg M1 103 0 j = cg M 103 0 j) → ∃ M', m0_beginEpoch_57 (m0_beginEpoch_20 f) (nI k) k M1 = some M' ∧ eBg m c t Q MR M0 M' := by
      intro M1 f1 p1 v5 vo
      obtain ⟨M2, q', a1, a2, a3⟩ := forget_c (MC := M1) (b := k) (q := Q k) hk10 (hQ k hk).1 (by rw [f1 8 k 2 rfl, o1, (hQ k hk).2]) (by
        have := i5 k hk10
        unfold ePb at *
        unfold cp at *
        rw [p1]; exact this)
      obtain ⟨a31, a32, a33, a34, a35, a36, a37, a38, a39⟩ := a3
      obtain ⟨M3, hM3⟩ : ∃ X, X = cs M2 103 0 5 (cg M1 103 0 5 + nI (Q k - q')) := ⟨_, rfl⟩
      have f3 : eF [103] M2 M3 := by rw [hM3]; exact (by repeat (first | exact eF_refl | refine eF_cs ?_ rfl))
      have hfr : eF eKE M0 M3 := eF_trans i1 (eF_trans (eF_mono f1 rfl) (eF_trans (eF_mono a2 rfl) (eF_mono f3 rfl)))
      have e8 : cg M3 0 0 8 = cg M0 0 0 8 := hfr 0 0 8 rfl
      have hin : m0_isIn (cg M3 0 0 8) (nI k) M3 = some (if eb (cg M0 0 0 8) k then 1 else 0, M3) := by
        unfold m0_isIn
        rw [e8]
        simp only [zshr1_1 (show k < 32 by omega)]
        cases eb (cg M0 0 0 8) k <;> rfl
      have G1 : eG1 m M3 MR := eG1_fr g1 hfr (eH_refl (K := [])) rfl rfl
      have hup2 := (hup k hk).2
      have c9 : ∀ i s, cg M3 9 i s = cg M2 9 i s := fun i s => by rw [hM3, cg_cs, if_neg (by omega)]
      -- the box's own sum
      have wrap : ∀ M4, eF eK9 M3 M4 → M4.2 = M3.2 → (∀ i s, i ≠ (if k = 0 then 50 else k) → cg M4 9 i s = cg M3 9 i s) → (∀ s, s < 5 → cg M4 9 (if k = 0 then 50 else k) s = eSs (eVu MR c t k) k s) → eBg (k + 1) c t Q MR M0 M4 := by
        intro M4 f4 p4 w1 w2
        have hcp : ∀ kk i s, cp M4 kk i s = cp M2 kk i s := fun kk i s => by unfold cp; rw [p4, hM3]; rfl
        refine eBg_step hk10 hI' (eF_trans (eF_mono f1 rfl) (eF_trans (eF_mono a2 rfl) (eF_trans (eF_mono f3 rfl) (eF_mono f4 rfl)))) (q' := q') ?_ ?_ ?_ ?_ ?_ ?_ ?_ ?_ ?_
        · intro kk i s hkk
          rw [hcp, a32 kk i s hkk]; unfold cp; rw [p1]
        · intro i hi
          obtain ⟨b1, b2, b3, b4⟩ := a33 i hi
          refine ⟨by rw [f4 8 i 2 rfl, f3 8 i 2 rfl, b1, f1 8 i 2 rfl], by rw [f4 2 i 14 rfl, f3 2 i 14 rfl, b2, f1 2 i 14 rfl], fun j => by rw [f4 900 i j rfl, f3 900 i j rfl, b3, f1 900 i j rfl], fun hi50 s => ?_⟩
          rw [w1 i s (by split <;> omega), c9, b4]
          refine f1 9 i s ?_
          show [103].contains (10000 + 100 * 9 + s) = false
          simp; omega
        · rw [f4 2 k 14 rfl, f3 2 k 14 rfl, a34]
        · refine ⟨a31, by rw [f4 8 k 2 rfl, f3 8 k 2 rfl, a36], fun j hj => by rw [f4 900 k j rfl, f3 900 k j rfl]; exact a37 j hj, ?_⟩
          have z1 : eCmp (fun j => cg M4 900 k j) q' = eCmp (fun j => cg M2 900 k j) q' := eCmp_congr (fun j _ => by rw [f4 900 k j rfl, f3 900 k j rfl])
          have z2 : eCmp (fun j => cg M1 900 k j) (Q k) = eCmp (fun j => cg M 900 k j) (Q k) := eCmp_congr (fun j _ => f1 900 k j rfl)
          rw [z1, a38, z2]
        · unfold ePb at *
          simp only [hcp]
          exact a39
        · intro s hs
          by_cases hk0 : k = 0
          · rw [if_pos hk0, w1 k s (by rw [if_pos hk0]; omega), c9, a35 s hs]
          · have := w2 s hs
            rw [if_neg hk0] at this
            rw [if_neg hk0]; exact this
        · intro s hs
          by_cases hk0 : k = 0
          · have := w2 s hs
            rw [if_pos hk0] at this
            rw [if_pos hk0, this, hk0]
          · rw [if_neg hk0, w1 50 s (by rw [if_neg hk0]; omega), c9, (a33 50 (by omega)).2.2.2 s]
            refine f1 9 50 s ?_
            show [103].contains (10000 + 100 * 9 + s) = false
            simp; omega
        · rw [f4 103 0 5 rfl, hM3, cg_cs, if_pos ⟨rfl, rfl, rfl⟩, v5, Int32.add_assoc, eI_add]
        · intro j hj
          rw [f4 103 0 j rfl, hM3, cg_cs, if_neg (fun h => hj h.2.2), a2 103 0 j rfl, vo j hj]
      have wrap0 : eVu MR c t k = none → eBg (k + 1) c t Q MR M0 M3 := by
        intro hv
        refine wrap M3 eF_refl rfl (fun _ _ _ => rfl) (fun s hs => ?_)
        rw [hv, eSs_none]
        by_cases hk0 : k = 0
        · rw [if_pos hk0, c9, (a33 50 (by omega)).2.2.2 s]
          have : cg M1 9 50 s = cg M 9 50 s := by
            refine f1 9 50 s ?_
            show [103].contains (10000 + 100 * 9 + s) = false
            simp; omega
          rw [this, i6 s hs, if_neg (by omega)]
        · rw [if_neg hk0, c9, a35 s hs]
      unfold m0_beginEpoch_57 m0_beginEpoch_86
      simp only [z5, blt_t hk10, a1, e5, zbd_s, zbv_s, zgd_t, Bool.and_true, Bool.true_and, Bool.and_self, if_true, if_false, e_01, eq_self, Bool.false_eq_true]
      rw [← hM3, hin, zbd_s]
      rcases Bool.eq_false_or_eq_true (eb (cg M0 0 0 8) k) with hb | hb
      · rw [hb] at hup2
        have hup2' : rg MR 1322 0 k = 1 := hup2
        obtain ⟨M4, b1, b2⟩ := startSum_c (MC := M3) (c := c) G1 hk10 ht (by rw [hfr 3 0 5 rfl, h35]) hc (by rw [hfr 7 1 2 rfl, h7]) (fun j hj => by
          have := hd j hj
          unfold eCd at *
          rw [hfr 803 1 j rfl, hfr 804 1 j rfl, hfr 805 1 j rfl]
          exact this)
        have hvu : eVu MR c t k = eVlu MR c t k := by unfold eVu; rw [if_neg (by rw [hup2']; decide)]
        simp only [hb, n10, b1, ep1, zbd_s, zbv_s, zgd_t, Bool.and_true, Bool.true_and, Bool.and_self, if_true, if_false, e_01, eq_self, Bool.false_eq_true]
        cases hv : eVlu MR c t k with
        | none =>
          rw [hv] at b2
          have b2' : M4 = M3 := b2
          rw [b2']
          exact ih M3 (wrap0 (by rw [hvu, hv]))
        | some v =>
          rw [hv] at b2
          obtain ⟨d1, d2, d3, d4, d5, d6, d7, d8⟩ : eS5 (if k = 0 then 50 else k) M3 M4 v v 1 v (zshl 1 (nI k)) := b2
          refine ih M4 (wrap M4 d1 d2 (fun i s hi => d3 i s hi) (fun s hs => ?_))
          rw [hvu, hv]
          have : s = 0 ∨ s = 1 ∨ s = 2 ∨ s = 3 ∨ s = 4 := by omega
          rcases this with rfl | rfl | rfl | rfl | rfl
          · exact d4
          · exact d5
          · exact d6
          · exact d7
          · exact d8
      · rw [hb] at hup2
        have hup2' : rg MR 1322 0 k = 0 := hup2
        simp only [hb, ep1, zbd_s, zbv_s, zgd_t, Bool.and_true, Bool.true_and, Bool.and_self, if_true, if_false, e_01, eq_self, Bool.false_eq_true]
        exact ih M3 (wrap0 (by unfold eVu; rw [if_pos hup2']))
    rw [m0_beginEpoch_20]
    simp only [e34, eI_le (show m < 2 ^ 31 by omega) (show k < 2 ^ 31 by omega), show (m ≤ k) = False from eq_false (by omega), of_y hk10, blt_t hk10, hun, z5, e5, zbd_s, zbv_s, zgd_t, Bool.and_true, Bool.true_and, Bool.and_self, if_true, if_false, e_01, eq_self, Bool.false_eq_true]
    rcases hun1 with hu | hu
    · simp only [hu, show (nI 0 = (0 : Int32)) = True from eq_true rfl, zbd_s, zbv_s, zgd_t, Bool.and_true, Bool.true_and, Bool.and_self, if_true, if_false, e_01, eq_self, Bool.false_eq_true]
      exact body M eF_refl rfl (by rw [hu]; exact (Int32.add_zero _).symm) (fun _ _ => rfl)
    · simp only [hu, show (nI 1 = (0 : Int32)) = False from eq_false (by decide), zbd_s, zbv_s, zgd_t, Bool.and_true, Bool.true_and, Bool.and_self, if_true, if_false, e_01, eq_self, Bool.false_eq_true]
      refine body _ (by repeat (first | exact eF_refl | refine eF_cs ?_ rfl)) rfl ?_ (fun j hj => by rw [cg_cs, if_neg (fun h => hj h.2.2)])
      rw [cg_cs, if_pos ⟨rfl, rfl, rfl⟩, hu]; rfl
  · exact (Int32.add_zero _).symm
