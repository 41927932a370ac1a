/-! levels, the class -/
theorem fill603 (v : Int32) (M0 : cM) : ∃ M, mJ7_fill_603 v M0 = some M ∧ eF [603] M0 M ∧ M.2 = M0.2 ∧ ∀ j, j < 10 → cg M 603 0 j = v := by
  unfold mJ7_fill_603
  refine eloop (σ := cM) (fun f k M => ∃ M', mJ7_fill_603_5 f v (nI k) 10 M = some M' ∧ eF [603] M0 M' ∧ M'.2 = M0.2 ∧ ∀ j, j < 10 → cg M' 603 0 j = v) (fun k M => eF [603] M0 M ∧ M.2 = M0.2 ∧ ∀ j, j < k → cg M 603 0 j = v) (m := 10) (k0 := 0) (by omega) ?_ ?_ (zfu_gt (by omega)) ⟨eF_refl, rfl, fun j hj => absurd hj (by omega)⟩
  · rintro f M hI
    simp only [mJ7_fill_603_5, show ((10 : Int32) ≤ nI 10) = True from eq_true (by decide), zbd_s, zbv_s, zgd_t, Bool.and_true, Bool.true_and, Bool.and_self, if_true, if_false, e_01, eq_self, Bool.false_eq_true]
    exact ⟨M, rfl, hI⟩
  · rintro f k M _ hk ⟨h1, h2, h3⟩ ih
    simp only [mJ7_fill_603_5, show ((10 : Int32) ≤ nI k) = False from eq_false (by rw [show (10 : Int32) = nI 10 from rfl, eI_le (by omega) (by omega)]; omega), ezin_nI (show k < 10 by omega) (show 10 < 2 ^ 31 by decide), ex_nI (show k < 2 ^ 31 by omega), ep1, zbd_s, zbv_s, zgd_t, Bool.and_true, Bool.true_and, Bool.and_self, if_true, if_false, e_01, eq_self, Bool.false_eq_true]
    refine ih _ ⟨eF_cs h1 rfl, h2, fun j hj => ?_⟩
    have := h3 j
    simp only [cg_cs]; grind
theorem fill604 (v : Int32) (M0 : cM) : ∃ M, mJ7_fill_604 v M0 = some M ∧ eF [604] M0 M ∧ M.2 = M0.2 ∧ ∀ j, j < 10 → cg M 604 0 j = v := by
  unfold mJ7_fill_604
  refine eloop (σ := cM) (fun f k M => ∃ M', mJ7_fill_604_5 f v (nI k) 10 M = some M' ∧ eF [604] M0 M' ∧ M'.2 = M0.2 ∧ ∀ j, j < 10 → cg M' 604 0 j = v) (fun k M => eF [604] M0 M ∧ M.2 = M0.2 ∧ ∀ j, j < k → cg M 604 0 j = v) (m := 10) (k0 := 0) (by omega) ?_ ?_ (zfu_gt (by omega)) ⟨eF_refl, rfl, fun j hj => absurd hj (by omega)⟩
  · rintro f M hI
    simp only [mJ7_fill_604_5, show ((10 : Int32) ≤ nI 10) = True from eq_true (by decide), zbd_s, zbv_s, zgd_t, Bool.and_true, Bool.true_and, Bool.and_self, if_true, if_false, e_01, eq_self, Bool.false_eq_true]
    exact ⟨M, rfl, hI⟩
  · rintro f k M _ hk ⟨h1, h2, h3⟩ ih
    simp only [mJ7_fill_604_5, show ((10 : Int32) ≤ nI k) = False from eq_false (by rw [show (10 : Int32) = nI 10 from rfl, eI_le (by omega) (by omega)]; omega), ezin_nI (show k < 10 by omega) (show 10 < 2 ^ 31 by decide), ex_nI (show k < 2 ^ 31 by omega), ep1, zbd_s, zbv_s, zgd_t, Bool.and_true, Bool.true_and, Bool.and_self, if_true, if_false, e_01, eq_self, Bool.false_eq_true]
    refine ih _ ⟨eF_cs h1 rfl, h2, fun j hj => ?_⟩
    have := h3 j
    simp only [cg_cs]; grind
theorem fill605 (v : Int32) (M0 : cM) : ∃ M, mJ7_fill_605 v M0 = some M ∧ eF [605] M0 M ∧ M.2 = M0.2 ∧ ∀ j, j < 10 → cg M 605 0 j = v := by
  unfold mJ7_fill_605
  refine eloop (σ := cM) (fun f k M => ∃ M', mJ7_fill_605_5 f v (nI k) 10 M = some M' ∧ eF [605] M0 M' ∧ M'.2 = M0.2 ∧ ∀ j, j < 10 → cg M' 605 0 j = v) (fun k M => eF [605] M0 M ∧ M.2 = M0.2 ∧ ∀ j, j < k → cg M 605 0 j = v) (m := 10) (k0 := 0) (by omega) ?_ ?_ (zfu_gt (by omega)) ⟨eF_refl, rfl, fun j hj => absurd hj (by omega)⟩
  · rintro f M hI
    simp only [mJ7_fill_605_5, show ((10 : Int32) ≤ nI 10) = True from eq_true (by decide), zbd_s, zbv_s, zgd_t, Bool.and_true, Bool.true_and, Bool.and_self, if_true, if_false, e_01, eq_self, Bool.false_eq_true]
    exact ⟨M, rfl, hI⟩
  · rintro f k M _ hk ⟨h1, h2, h3⟩ ih
    simp only [mJ7_fill_605_5, show ((10 : Int32) ≤ nI k) = False from eq_false (by rw [show (10 : Int32) = nI 10 from rfl, eI_le (by omega) (by omega)]; omega), ezin_nI (show k < 10 by omega) (show 10 < 2 ^ 31 by decide), ex_nI (show k < 2 ^ 31 by omega), ep1, zbd_s, zbv_s, zgd_t, Bool.and_true, Bool.true_and, Bool.and_self, if_true, if_false, e_01, eq_self, Bool.false_eq_true]
    refine ih _ ⟨eF_cs h1 rfl, h2, fun j hj => ?_⟩
    have := h3 j
    simp only [cg_cs]; grind
theorem fill606 (v : Int32) (M0 : cM) : ∃ M, mJ7_fill_606 v M0 = some M ∧ eF [606] M0 M ∧ M.2 = M0.2 ∧ ∀ j, j < 10 → cg M 606 0 j = v := by
  unfold mJ7_fill_606
  refine eloop (σ := cM) (fun f k M => ∃ M', mJ7_fill_606_5 f v (nI k) 10 M = some M' ∧ eF [606] M0 M' ∧ M'.2 = M0.2 ∧ ∀ j, j < 10 → cg M' 606 0 j = v) (fun k M => eF [606] M0 M ∧ M.2 = M0.2 ∧ ∀ j, j < k → cg M 606 0 j = v) (m := 10) (k0 := 0) (by omega) ?_ ?_ (zfu_gt (by omega)) ⟨eF_refl, rfl, fun j hj => absurd hj (by omega)⟩
  · rintro f M hI
    simp only [mJ7_fill_606_5, show ((10 : Int32) ≤ nI 10) = True from eq_true (by decide), zbd_s, zbv_s, zgd_t, Bool.and_true, Bool.true_and, Bool.and_self, if_true, if_false, e_01, eq_self, Bool.false_eq_true]
    exact ⟨M, rfl, hI⟩
  · rintro f k M _ hk ⟨h1, h2, h3⟩ ih
    simp only [mJ7_fill_606_5, show ((10 : Int32) ≤ nI k) = False from eq_false (by rw [show (10 : Int32) = nI 10 from rfl, eI_le (by omega) (by omega)]; omega), ezin_nI (show k < 10 by omega) (show 10 < 2 ^ 31 by decide), ex_nI (show k < 2 ^ 31 by omega), ep1, zbd_s, zbv_s, zgd_t, Bool.and_true, Bool.true_and, Bool.and_self, if_true, if_false, e_01, eq_self, Bool.false_eq_true]
    refine ih _ ⟨eF_cs h1 rfl, h2, fun j hj => ?_⟩
    have := h3 j
    simp only [cg_cs]; grind
theorem fill607 (v : Int32) (M0 : cM) : ∃ M, mJ7_fill_607 v M0 = some M ∧ eF [607] M0 M ∧ M.2 = M0.2 ∧ ∀ j, j < 10 → cg M 607 0 j = v := by
  unfold mJ7_fill_607
  refine eloop (σ := cM) (fun f k M => ∃ M', mJ7_fill_607_5 f v (nI k) 10 M = some M' ∧ eF [607] M0 M' ∧ M'.2 = M0.2 ∧ ∀ j, j < 10 → cg M' 607 0 j = v) (fun k M => eF [607] M0 M ∧ M.2 = M0.2 ∧ ∀ j, j < k → cg M 607 0 j = v) (m := 10) (k0 := 0) (by omega) ?_ ?_ (zfu_gt (by omega)) ⟨eF_refl, rfl, fun j hj => absurd hj (by omega)⟩
  · rintro f M hI
    simp only [mJ7_fill_607_5, show ((10 : Int32) ≤ nI 10) = True from eq_true (by decide), zbd_s, zbv_s, zgd_t, Bool.and_true, Bool.true_and, Bool.and_self, if_true, if_false, e_01, eq_self, Bool.false_eq_true]
    exact ⟨M, rfl, hI⟩
  · rintro f k M _ hk ⟨h1, h2, h3⟩ ih
    simp only [mJ7_fill_607_5, show ((10 : Int32) ≤ nI k) = False from eq_false (by rw [show (10 : Int32) = nI 10 from rfl, eI_le (by omega) (by omega)]; omega), ezin_nI (show k < 10 by omega) (show 10 < 2 ^ 31 by decide), ex_nI (show k < 2 ^ 31 by omega), ep1, zbd_s, zbv_s, zgd_t, Bool.and_true, Bool.true_and, Bool.and_self, if_true, if_false, e_01, eq_self, Bool.false_eq_true]
    refine ih _ ⟨eF_cs h1 rfl, h2, fun j hj => ?_⟩
    have := h3 j
    simp only [cg_cs]; grind
theorem eSet_and {n : Nat} (hn : n ≤ 31) (p q : Nat → Bool) : eSet n p &&& eSet n q = eSet n (fun j => p j && q j) := by
  refine eb_ext (fun j hj => ?_)
  rw [eb_and, eb_set hn, eb_set hn, eb_set hn]
  cases decide (j < n) <;> cases p j <;> cases q j <;> rfl
theorem boxesAt_c {m : Nat} {M : cM} (hm : m ≤ 10) (h0 : cg M 3 0 4 = nI m) (x : Int32) : m5_boxesAt x M = some (eSet m (fun i => decide (cg M 603 0 i = x)), M) := by
  unfold m5_boxesAt
  refine eloop0 (fun f k => m5_boxesAt_4 f x (eSet k (fun i => decide (cg M 603 0 i = x))) (nI k) M = some (eSet m (fun i => decide (cg M 603 0 i = x)), M)) (Nat.zero_le m) ?_ ?_ (zfu_gt (by omega))
  · intro f
    rw [m5_boxesAt_4, h0, if_pos (by rw [eI_le (by omega) (by omega)]; omega)]
  · intro f k _ hk ih
    rw [m5_boxesAt_4]
    simp only [h0, eI_le (show m < 2 ^ 31 by omega) (show k < 2 ^ 31 by omega), show (m ≤ k) = False from eq_false (by omega), show ((10 : Int32) ≤ nI k) = False from eq_false (by rw [show (10 : Int32) = nI 10 from rfl, eI_le (by omega) (by omega)]; omega), ezin_nI (show k < 10 by omega) (show 10 < 2 ^ 31 by decide), ex_nI (show k < 2 ^ 31 by omega), m5_boxesAt_37, ep1, zbd_s, zbv_s, zgd_t, Bool.and_true, Bool.true_and, Bool.and_self, if_true, if_false, e_01, eq_self, Bool.false_eq_true]
    rw [← ih, eSet_s]
    by_cases h : cg M 603 0 k = x <;> simp [h]
theorem and1 (x : Int32) : (x &&& 1 = 0) ↔ eb x 0 = false := by
  have e1 : ∀ j : Nat, j < 32 → eb 1 j = decide (j = 0) := by decide +kernel
  constructor
  · intro h
    have : eb (x &&& 1) 0 = eb 0 0 := by rw [h]
    rw [eb_and, e1 0 (by decide), eb_0] at this
    simpa using this
  · intro h
    refine eb_ext (fun j hj => ?_)
    rw [eb_and, e1 j hj, eb_0]
    by_cases hj0 : j = 0
    · subst hj0; rw [h]; rfl
    · simp [hj0]
/-- what the trees' making may change in the class -/
def qK : List Nat := [602, 603, 604, 605, 606, 607]
theorem steps_c {m t : Nat} {MC0 MC : cM} {MR : rM} (hm : m ≤ 10) (hm1 : 0 < m) (g0 : eG0 m t MC0 MR) (g1 : eG1 m MC0 MR) (hf : eF qK MC0 MC) (hp : MC.2 = MC0.2) : ∃ MC', m5_findSteps (eSet m (eLiv MR)) MC = some MC' ∧ eF [603] MC MC' ∧ MC'.2 = MC.2 ∧ ∀ b, b < m → cg MC' 603 0 b = eM (qHo m MR m b) := by
  obtain ⟨M1, a1, a2, a3, a4⟩ := fill603 (-1) MC
  unfold m5_findSteps
  rw [a1, zbv_s]
  have hb0 : eb (eSet m (eLiv MR)) 0 = eLiv MR 0 := by rw [eb_set (by omega)]; simp [hm1]
  by_cases hl : eLiv MR 0 = true
  · rw [if_neg (fun h => by rw [and1, hb0, hl] at h; cases h)]
    simp only [show zin 0 10 = true from rfl, nx_0, zbd_s, zbv_s, zgd_t, Bool.and_true, Bool.true_and, Bool.and_self, if_true, if_false, e_01, eq_self, Bool.false_eq_true]
    refine eloop (σ := cM) (fun f d M => ∃ MC', m5_findSteps_24 f (eSet m (eLiv MR)) (nI d) M = some MC' ∧ eF [603] MC MC' ∧ MC'.2 = MC.2 ∧ ∀ b, b < m → cg MC' 603 0 b = eM (qHo m MR m b)) (fun d M => eF [603] MC M ∧ M.2 = MC.2 ∧ ∀ b, b < m → cg M 603 0 b = eM (qHo m MR d b)) (m := m) (k0 := 0) (by omega) ?_ ?_ (zfu_gt (by omega)) ⟨eF_cs a2 rfl, a3, fun b hb => ?_⟩
    · rintro f M ⟨i1, i2, i3⟩
      have e34 : cg M 3 0 4 = nI m := by rw [i1 3 0 4 rfl, hf 3 0 4 rfl, g0.1]
      exact ⟨M, by rw [m5_findSteps_24, e34, if_pos (by rw [eI_le (by omega) (by omega)]; omega)], i1, i2, i3⟩
    · rintro f d M hd0 hd ⟨i1, i2, i3⟩ ih
      have e34 : ∀ M', eF [603] MC M' → cg M' 3 0 4 = nI m := fun M' h => by rw [h 3 0 4 rfl, hf 3 0 4 rfl, g0.1]
      rw [m5_findSteps_24, e34 M i1, if_neg (by rw [eI_le (by omega) (by omega)]; omega)]
      have q00 : ∀ d, qHo m MR d 0 = 1 := by
        intro d
        have h0 : qHo m MR 0 0 = 1 := by rw [qHo_0, if_pos ⟨rfl, hl⟩]
        rw [qHo_keep' (d := 0) (by omega) (by omega), h0]
      have st : nI 1 = (1 : Int32) := rfl
      rw [← st]
      refine eloop (σ := cM) (fun f' b M => ∃ MC', m5_findSteps_37 (m5_findSteps_24 f) f' (eSet m (eLiv MR)) (nI d) (nI b) M = some MC' ∧ eF [603] MC MC' ∧ MC'.2 = MC.2 ∧ ∀ b, b < m → cg MC' 603 0 b = eM (qHo m MR m b)) (fun b M => eF [603] MC M ∧ M.2 = MC.2 ∧ ∀ j, j < m → cg M 603 0 j = if j < b then eM (qHo m MR (d + 1) j) else eM (qHo m MR d j)) (m := m) (k0 := 1) (by omega) ?_ ?_ (zfu_gt (by omega)) ⟨i1, i2, fun j hj => ?_⟩
      · rintro f' M ⟨j1, j2, j3⟩
        rw [m5_findSteps_37, e34 M j1, if_pos (by rw [eI_le (by omega) (by omega)]; omega)]
        unfold m5_findSteps_109
        rw [ep1]
        exact ih M ⟨j1, j2, fun b hb => by rw [j3 b hb, if_pos hb]⟩
      · rintro f' b M hb1 hb ⟨j1, j2, j3⟩ ih2
        have hb10 : b < 10 := by omega
        have fM : eF qK MC0 M := eF_trans hf (eF_mono j1 rfl)
        have G0 := eG0_fr g0 fM (eH_refl (K := [])) rfl rfl
        have G1 := eG1_fr g1 fM (eH_refl (K := [])) rfl rfl
        have hle := qHo_le m MR d b
        have hv : cg M 603 0 b = eM (qHo m MR d b) := by rw [j3 b hb, if_neg (by omega)]
        have hset : eSet m (fun i => decide (cg M 603 0 i = nI d)) = eSet m (fun i => decide (qHo m MR d i = d + 1)) := by
          refine eSet_congr (fun a ha => ?_)
          have h1 := qHo_le m MR d a
          have h2 := qHo_le m MR (d + 1) a
          congr 1
          rw [j3 a ha]
          by_cases hab : a < b
          · rw [if_pos hab, eM_nI (by omega) (by omega)]
            refine propext ⟨fun h => ?_, fun h => ?_⟩
            · by_cases h3 : qHo m MR d a = 0
              · exfalso
                rw [qHo_s] at h
                unfold qNx at h
                split at h <;> omega
              · rw [qHo_keep h3] at h; exact h
            · rw [qHo_keep (by omega)]; exact h
          · rw [if_neg hab, eM_nI (by omega) (by omega)]
        have same : qHo m MR (d + 1) b = qHo m MR d b → ∃ MC', m5_findSteps_37 (m5_findSteps_24 f) f' (eSet m (eLiv MR)) (nI d) (nI (b + 1)) M = some MC' ∧ eF [603] MC MC' ∧ MC'.2 = MC.2 ∧ ∀ b, b < m → cg MC' 603 0 b = eM (qHo m MR m b) := by
          intro hq
          refine ih2 M ⟨j1, j2, fun j hj => ?_⟩
          rw [j3 j hj]
          by_cases hjb : j = b
          · rw [hjb, if_neg (by omega), if_pos (by omega), hq]
          · by_cases hl : j < b
            · rw [if_pos hl, if_pos (by omega)]
            · rw [if_neg hl, if_neg (by omega)]
        rw [m5_findSteps_37]
        simp only [e34 M j1, eI_le (show m < 2 ^ 31 by omega) (show b < 2 ^ 31 by omega), show (m ≤ b) = False from eq_false (by omega), show ((10 : Int32) ≤ nI b) = False from eq_false (by rw [show (10 : Int32) = nI 10 from rfl, eI_le (by omega) (by omega)]; omega), zshr1_0 (show b < 32 by omega), eb_set (show m ≤ 31 by omega), decide_eq_true hb, ezin_nI (show b < 10 by omega) (show 10 < 2 ^ 31 by decide), ex_nI (show b < 2 ^ 31 by omega), hv, eM_m1 (show qHo m MR d b < 2 ^ 31 by omega), friends_c hm G0 G1 hb10, boxesAt_c hm (e34 M j1), hset, eSet_and (show m ≤ 31 by omega), m5_findSteps_103, ep1, zbd_s, zbv_s, zgd_t, Bool.and_true, Bool.true_and, Bool.and_self, if_true, if_false, e_01, eq_self, Bool.false_eq_true]
        have hcond : (eSet m (fun j => (eMate MR b j && eLiv MR j) && decide (qHo m MR d j = d + 1)) = 0) ↔ eNum m (fun a => decide (qHo m MR d a = d + 1) && (eLiv MR a && eMate MR b a)) = 0 := by
          rw [eSet_0 (by omega), eNum_congr (p := fun j => (eMate MR b j && eLiv MR j) && decide (qHo m MR d j = d + 1)) (q := fun a => decide (qHo m MR d a = d + 1) && (eLiv MR a && eMate MR b a)) (fun j _ => by
            cases eMate MR b j <;> cases eLiv MR j <;> cases decide (qHo m MR d j = d + 1) <;> rfl)]
        rcases (Bool.eq_false_or_eq_true (eLiv MR b)).symm with hlb | hlb
        · simp only [hlb, if_true]
          exact same (by rw [qHo_s]; unfold qNx; rw [if_neg (fun h => by rw [hlb] at h; exact absurd h.2.1 (by decide))])
        · simp only [hlb, show (true = false) = False from eq_false (by decide), if_false]
          by_cases hz : qHo m MR d b = 0
          · simp only [hz, if_true]
            by_cases hn : eNum m (fun a => decide (qHo m MR d a = d + 1) && (eLiv MR a && eMate MR b a)) = 0
            · rw [if_pos (hcond.mpr hn)]
              exact same (by rw [qHo_s]; unfold qNx; rw [if_neg (fun h => h.2.2 hn)])
            · rw [if_neg (fun h => hn (hcond.mp h))]
              refine ih2 _ ⟨eF_cs j1 rfl, j2, fun j hj => ?_⟩
              rw [cg_cs]
              by_cases hjb : j = b
              · rw [if_pos ⟨rfl, rfl, hjb⟩, hjb, if_pos (by omega), qHo_s]
                unfold qNx
                rw [if_pos ⟨hz, hlb, hn⟩, eM_s]
              · rw [if_neg (fun h => hjb h.2.2), j3 j hj]
                by_cases hl : j < b
                · rw [if_pos hl, if_pos (by omega)]
                · rw [if_neg hl, if_neg (by omega)]
          · simp only [hz, if_false]
            exact same (qHo_keep hz)
      · by_cases hj1 : j < 1
        · rw [if_pos hj1, i3 j hj, show j = 0 by omega, q00, q00]
        · rw [if_neg hj1]; exact i3 j hj
    · rw [cg_cs]
      by_cases hb0 : b = 0
      · rw [if_pos ⟨rfl, rfl, hb0⟩, qHo_0, if_pos ⟨hb0, hl⟩, eM_s]; rfl
      · rw [if_neg (fun h => hb0 h.2.2), a4 b (by omega), qHo_0, if_neg (fun h => hb0 h.1), eM_0]
  · have hl' : eLiv MR 0 = false := by simpa using hl
    rw [if_pos ((and1 _).mpr (by rw [hb0, hl']))]
    have z : ∀ d b, qHo m MR d b = 0 := by
      intro d
      induction d with
      | zero => intro b; rw [qHo_0, if_neg (fun h => hl h.2)]
      | succ d ih =>
        intro b
        rw [qHo_s]; unfold qNx
        rw [if_neg]
        · exact ih b
        · rintro ⟨-, -, h⟩
          apply h
          rw [eNum_z]
          intro j _
          rw [ih j, decide_eq_false (by omega), Bool.false_and]
    exact ⟨M1, rfl, a2, a3, fun b hb => by rw [a4 b (by omega), z, eM_0]⟩
