def eM (d : Nat) : Int32 := nI d + (-1)
theorem eM_s (d : Nat) : eM (d + 1) = nI d := by
  unfold eM
  rw [← eI_add]
  show nI d + 1 + -1 = nI d
  rw [Int32.add_assoc, show (1 : Int32) + -1 = 0 from by decide, Int32.add_zero]
theorem eM_0 : eM 0 = -1 := by decide
theorem eM_neg (d : Nat) (hd : d < 2 ^ 31) : (eM d < 0) = (d = 0) := by
  cases d with
  | zero => rw [eM_0]; exact propext ⟨fun _ => rfl, fun _ => by decide⟩
  | succ d => rw [eM_s, show (0 : Int32) = nI 0 from rfl, eI_lt (by omega) (by omega)]; refine propext ?_; omega
theorem nI_m1' (d : Nat) : nI d + (-1 : Int32) = eM d := rfl
/-- the first k of 0 .. 999 at which the cost is beyond the power, told by the costs themselves -/
theorem eLf_hit {M : rM} {b t : Nat} {hp : Bool} {ch k : Nat} (hk : k < 1000) (h1 : nx (rg M 1302 0 b) < eTot M b t hp ch (k + 1)) (h2 : ∀ j, j < k → eTot M b t hp ch (j + 1) ≤ nx (rg M 1302 0 b)) : eLf M b t hp ch = k := by
  have : ∀ d j, j + d = k → ∀ e, d < e → eFd (fun i => decide (nx (rg M 1302 0 b) < eTot M b t hp ch (i + 1))) e j = some k := by
    intro d
    induction d with
    | zero =>
      intro j hj e he
      obtain ⟨e, rfl⟩ : ∃ e', e = e' + 1 := ⟨e - 1, by omega⟩
      have : j = k := by omega
      subst this
      unfold eFd; rw [decide_eq_true h1]; rfl
    | succ d ih =>
      intro j hj e he
      obtain ⟨e, rfl⟩ : ∃ e', e = e' + 1 := ⟨e - 1, by omega⟩
      have := h2 j (by omega)
      unfold eFd
      rw [decide_eq_false (by omega), if_neg (by decide)]
      exact ih (j + 1) (by omega) e (by omega)
  unfold eLf
  rw [this k 0 (by omega) 1000 (by omega)]
theorem eLf_no {M : rM} {b t : Nat} {hp : Bool} {ch : Nat} (h2 : ∀ j, j < 1000 → eTot M b t hp ch (j + 1) ≤ nx (rg M 1302 0 b)) : eLf M b t hp ch = 1000 := by
  unfold eLf
  cases h : eFd (fun i => decide (nx (rg M 1302 0 b) < eTot M b t hp ch (i + 1))) 1000 0 with
  | none => rfl
  | some a =>
    have := eFd_ok _ _ _ _ h
    have h3 := h2 a (by omega)
    have h4 := this.2.2
    simp at h4; omega
theorem eLf_le (M : rM) (b t : Nat) (hp : Bool) (ch : Nat) : eLf M b t hp ch ≤ 1000 := by
  unfold eLf
  cases h : eFd (fun i => decide (nx (rg M 1302 0 b) < eTot M b t hp ch (i + 1))) 1000 0 with
  | none => exact Nat.le_refl _
  | some a => have := eFd_ok _ _ _ _ h; show a ≤ 1000; omega
theorem eTot_mono {M : rM} {b t : Nat} {hp : Bool} {c d k : Nat} (h : c ≤ d) : eTot M b t hp c k ≤ eTot M b t hp d k := by
  unfold eTot
  have := Nat.mul_le_mul_right (eHr M t k) h
  omega
/-- box b's lives, children d .. 9 done -/
def eLv (MR : rM) (b t : Nat) (hp : Bool) (d : Nat) (MC0 MC : cM) : Prop := eF [602] MC0 MC ∧ MC.2 = MC0.2 ∧ (∀ ch, d ≤ ch → ch < 10 → cg MC 602 0 (10 * b + ch) = nI (eLf MR b t hp ch)) ∧ (∀ j, (j < 10 * b ∨ 10 * b + 10 ≤ j) → cg MC 602 0 j = cg MC0 602 0 j)
theorem lives_c {m t b : Nat} {MC0 : cM} {MR : rM} (hm : m ≤ 10) (g0 : eG0 m t MC0 MR) (g1 : eG1 m MC0 MR) (g5 : eG5 MC0 MR) (hb : b < m) (hp : Bool) : ∃ MC', m5_foreseeLives (nI b) (if hp then 1 else 0) MC0 = some MC' ∧ eLv MR b t hp 0 MC0 MC' := by
  have hb10 : b < 10 := by omega
  have c2 := (cost_ok g0 (show 2 < 4 by decide))
  have c3 := (cost_ok g0 (show 3 < 4 by decide))
  have pw := pow_ok g1 hb10
  -- the last loop
  have h165 : ∀ d M, d ≤ 10 → eLv MR b t hp d MC0 M → (∀ ch, ch < d → ∀ j, j < 1000 → eTot MR b t hp ch (j + 1) ≤ nx (rg MR 1302 0 b)) → ∃ MC', m5_foreseeLives_162 (nI b) (eM d) M = some MC' ∧ eLv MR b t hp 0 MC0 MC' := by
    intro d M hd hI hno
    unfold m5_foreseeLives_162
    refine eloop (σ := cM) (fun f k M => ∃ MC', m5_foreseeLives_165 f (nI b) (eM d) (nI k) M = some MC' ∧ eLv MR b t hp 0 MC0 MC') (fun k M => eLv MR b t hp d MC0 M ∧ ∀ ch, ch < k → cg M 602 0 (10 * b + ch) = nI (eLf MR b t hp ch)) (m := d) (k0 := 0) (by omega) ?_ ?_ (zfu_gt (by omega)) ⟨hI, fun ch h => absurd h (by omega)⟩
    · rintro f M ⟨⟨i1, i2, i3, i4⟩, i5⟩
      have : (eM d < nI d) = True := by
        refine eq_true ?_
        cases d with
        | zero => rw [eM_0]; decide
        | succ d => rw [eM_s, eI_lt (by omega) (by omega)]; omega
      simp only [m5_foreseeLives_165, this, zbd_s, zbv_s, zgd_t, Bool.and_true, Bool.true_and, Bool.and_self, if_true, if_false, e_01, eq_self, Bool.false_eq_true]
      refine ⟨M, rfl, i1, i2, fun ch _ hc => ?_, i4⟩
      by_cases h : ch < d
      · exact i5 ch h
      · exact i3 ch (by omega) hc
    · rintro f k M _ hk ⟨⟨i1, i2, i3, i4⟩, i5⟩ ih
      have : (eM d < nI k) = False := by
        refine eq_false ?_
        obtain ⟨d', rfl⟩ : ∃ d', d = d' + 1 := ⟨d - 1, by omega⟩
        rw [eM_s, eI_lt (by omega) (by omega)]; omega
      simp only [m5_foreseeLives_165, this, e10, eI_add, ezin_nI (show 10 * b + k < 100 by omega) (show 100 < 2 ^ 31 by decide), ex_nI (show 10 * b + k < 2 ^ 31 by omega), ep1, zbd_s, zbv_s, zgd_t, Bool.and_true, Bool.true_and, Bool.and_self, if_true, if_false, e_01, eq_self, Bool.false_eq_true]
      have hl : eLf MR b t hp k = 1000 := eLf_no (hno k hk)
      refine ih _ ⟨⟨eF_cs i1 rfl, i2, fun ch h1 h2 => ?_, fun j hj => ?_⟩, fun ch h => ?_⟩
      · rw [cg_cs, if_neg (by omega)]; exact i3 ch h1 h2
      · rw [cg_cs, if_neg (by omega)]; exact i4 j hj
      · by_cases hck : ch = k
        · subst hck; rw [hl]; simp [cg_cs]; rfl
        · rw [cg_cs, if_neg (by omega)]; exact i5 ch (by omega)
  have hb2 : m5_foreseeLives (nI b) (if hp then 1 else 0) MC0 = m5_foreseeLives_33 zfu (nI b) (if hp then 1 else 0) b (eM 10) (nI (eOw MR b t hp 0)) (nI (eHr MR t 0)) (nI (0 + 1)) MC0 := by
    have e9 : eM 10 = 9 := by decide
    have eo : nI (eOw MR b t hp 0) = 0 := rfl
    have eh : nI (eHr MR t 0) = 0 := rfl
    have e1 : nI (0 + 1) = 1 := rfl
    rw [e9, eo, eh, e1]
    unfold m5_foreseeLives
    rw [if_neg, if_pos, of_y hb10, zbd_s]
    · rw [show (10 : Int32) = nI 10 from rfl, eI_lt (by omega) (by omega)]; omega
    · rw [show (0 : Int32) = nI 0 from rfl, eI_lt (by omega) (by omega)]; omega
  rw [hb2]
  refine eloop (σ := Nat × cM) (fun f k s => ∃ MC', m5_foreseeLives_33 f (nI b) (if hp then 1 else 0) b (eM s.1) (nI (eOw MR b t hp k)) (nI (eHr MR t k)) (nI (k + 1)) s.2 = some MC' ∧ eLv MR b t hp 0 MC0 MC') (fun k s => s.1 ≤ 10 ∧ eLv MR b t hp s.1 MC0 s.2 ∧ ∀ ch, ch < s.1 → ∀ j, j < k → eTot MR b t hp ch (j + 1) ≤ nx (rg MR 1302 0 b)) (m := 1000) (k0 := 0) (s := (10, MC0)) (by omega) ?_ ?_ (zfu_gt (by omega)) ⟨by omega, ⟨eF_refl, rfl, fun ch h1 h2 => by omega, fun _ _ => rfl⟩, fun ch _ j hj => absurd hj (by omega)⟩
  · rintro f ⟨d, M⟩ ⟨hd, hI, hno⟩
    simp only [m5_foreseeLives_33, show ((1000 : Int32) < nI (1000 + 1)) = True from eq_true (by decide), zbd_s, zbv_s, zgd_t, Bool.and_true, Bool.true_and, Bool.and_self, if_true, if_false, e_01, eq_self, Bool.false_eq_true]
    exact h165 d M hd hI hno
  · rintro f k ⟨d, M⟩ _ hk ⟨hd, hI, hno⟩ ih
    dsimp only at hd hI hno
    have hkl : ((1000 : Int32) < nI (k + 1)) = False := eq_false (by rw [show (1000 : Int32) = nI 1000 from rfl, eI_lt (by omega) (by omega)]; omega)
    by_cases hd0 : d = 0
    · subst hd0
      simp only [m5_foreseeLives_33, hkl, eM_neg 0 (by decide), zbd_s, zbv_s, zgd_t, Bool.and_true, Bool.true_and, Bool.and_self, if_true, if_false, e_01, eq_self, Bool.false_eq_true]
      have := h165 0 M (by omega) hI (fun ch h => absurd h (by omega))
      exact this
    · have g0' : eG0 m t M MR := eG0_fr g0 hI.1 (eH_refl (K := [])) rfl rfl
      have g1' : eG1 m M MR := eG1_fr g1 hI.1 (eH_refl (K := [])) rfl rfl
      have g5' : eG5 M MR := eG5_fr g5 hI.1 (eH_refl (K := [])) rfl rfl
      have hT : nI (t + (k + 1)) - (1 : Int32) = nI (t + k) := by
        rw [show t + (k + 1) = (t + k) + 1 by omega, ← eI_add]; exact Int32.add_sub_cancel _ _
      -- the while loop
      have h114 : ∀ d M, d ≤ 10 → eLv MR b t hp d MC0 M → (∀ ch, ch < d → ∀ j, j < k → eTot MR b t hp ch (j + 1) ≤ nx (rg MR 1302 0 b)) → ∃ MC', m5_foreseeLives_114 (m5_foreseeLives_33 f) zfu (nI b) (if hp then 1 else 0) b (eM d) (nI (eOw MR b t hp (k + 1))) (nI (eHr MR t (k + 1))) (nI (k + 1)) M = some MC' ∧ eLv MR b t hp 0 MC0 MC' := by
        intro d M hd hI hno
        have key : ∀ e d M f', d ≤ e → e < f' → d ≤ 10 → eLv MR b t hp d MC0 M → (∀ ch, ch < d → ∀ j, j < k → eTot MR b t hp ch (j + 1) ≤ nx (rg MR 1302 0 b)) → ∃ MC', m5_foreseeLives_114 (m5_foreseeLives_33 f) f' (nI b) (if hp then 1 else 0) b (eM d) (nI (eOw MR b t hp (k + 1))) (nI (eHr MR t (k + 1))) (nI (k + 1)) M = some MC' ∧ eLv MR b t hp 0 MC0 MC' := by
          intro e
          induction e with
          | zero =>
            intro d M f' h1 h2 hd hI hno
            obtain ⟨f', rfl⟩ : ∃ f'', f' = f'' + 1 := ⟨f' - 1, by omega⟩
            have : d = 0 := by omega
            subst this
            simp only [m5_foreseeLives_114, m5_foreseeLives_156, eM_neg 0 (by decide), ep1, zbd_s, zbv_s, zgd_t, Bool.and_true, Bool.true_and, Bool.and_self, if_true, if_false, e_01, eq_self, Bool.false_eq_true]
            exact ih (0, M) ⟨by omega, hI, fun ch h => absurd h (by omega)⟩
          | succ e ihe =>
            intro d M f' h1 h2 hd hI hno
            obtain ⟨f', rfl⟩ : ∃ f'', f' = f'' + 1 := ⟨f' - 1, by omega⟩
            by_cases hd0 : d = 0
            · subst hd0
              simp only [m5_foreseeLives_114, m5_foreseeLives_156, eM_neg 0 (by decide), ep1, zbd_s, zbv_s, zgd_t, Bool.and_true, Bool.true_and, Bool.and_self, if_true, if_false, e_01, eq_self, Bool.false_eq_true]
              exact ih (0, M) ⟨by omega, hI, fun ch h => absurd h (by omega)⟩
            · obtain ⟨c, rfl⟩ : ∃ c, d = c + 1 := ⟨d - 1, by omega⟩
              have hq : cg M 2 b 2 = rg MR 1302 0 b := by rw [hI.1 2 b 2 rfl]; exact (g1.1 b hb10).2.2.1.1
              have htot := eTot_le g0 b hp (show c ≤ 10 by omega) (show k + 1 ≤ 1000 by omega)
              have hcmp : (nI (eOw MR b t hp (k + 1)) + nI c * nI (eHr MR t (k + 1)) ≤ rg MR 1302 0 b) = ¬ (nx (rg MR 1302 0 b) < eTot MR b t hp c (k + 1)) := by
                rw [eI_mul, eI_add, pw.2, show eOw MR b t hp (k + 1) + c * eHr MR t (k + 1) = eTot MR b t hp c (k + 1) from rfl, eI_le (by omega) (by omega), ex_nI (by omega)]; refine propext ?_; omega
              simp only [m5_foreseeLives_114, m5_foreseeLives_156, eM_neg (c + 1) (by omega), show (c + 1 = 0) = False from eq_false (by omega), blt_t hb10, hq, eM_s, show (nI c < 0) = False from eq_false (by rw [show (0 : Int32) = nI 0 from rfl, eI_lt (by omega) (by omega)]; omega), hcmp, e10, eI_add, ezin_nI (show 10 * b + c < 100 by omega) (show 100 < 2 ^ 31 by decide), ex_nI (show 10 * b + c < 2 ^ 31 by omega), nI_m1', ep1, zbd_s, zbv_s, zgd_t, Bool.and_true, Bool.true_and, Bool.and_self, if_true, if_false, e_01, eq_self, Bool.false_eq_true]
              by_cases hlt : nx (rg MR 1302 0 b) < eTot MR b t hp c (k + 1)
              · simp only [hlt, not_true_eq_false, if_false]
                have hv : nI (k + 1) - (1 : Int32) = nI k := by rw [← eI_add]; exact Int32.add_sub_cancel _ _
                rw [hv]
                have hhit := eLf_hit (b := b) (t := t) (hp := hp) hk hlt (fun j hj => hno c (by omega) j hj)
                refine ihe c (cs M 602 0 (10 * b + c) (nI k)) f' (by omega) (by omega) (by omega) ⟨eF_cs hI.1 rfl, hI.2.1, fun ch h3 h4 => ?_, fun j hj => ?_⟩ (fun ch h => hno ch (by omega))
                · by_cases hcc : ch = c
                  · subst hcc; rw [hhit]; simp [cg_cs]
                  · rw [cg_cs, if_neg (by omega)]; exact hI.2.2.1 ch (by omega) h4
                · rw [cg_cs, if_neg (by omega)]; exact hI.2.2.2 j hj
              · simp only [hlt, not_false_eq_true, if_true]
                have := ih (c + 1, M) ⟨hd, hI, fun ch h j hj => by
                  by_cases hjk : j = k
                  · subst hjk
                    have := eTot_mono (M := MR) (b := b) (t := t) (hp := hp) (k := j + 1) (show ch ≤ c by omega)
                    omega
                  · exact hno ch h j (by omega)⟩
                rw [show (c + 1, M).1 = c + 1 from rfl, eM_s] at this
                exact this
        exact key 10 d M zfu hd (zfu_gt (by omega)) hd hI hno
      have hs1 : eOw MR b t hp (k + 1) = eOw MR b t hp k + (eRs MR b (t + k) + if eEp MR (nI (t + k)) && hp then eCost MR 2 else 0) := rfl
      have hs2 : eHr MR t (k + 1) = eHr MR t k + if eEp MR (nI (t + k)) then eCost MR 3 else 0 := rfl
      have q3 : cg M 401 0 3 = nI (eCost MR 3) := by rw [(g0'.2.2.2.2 3 (by decide)).1]; exact c3.2
      have q2 : cg M 401 0 2 = nI (eCost MR 2) := by rw [(g0'.2.2.2.2 2 (by decide)).1]; exact c2.2
      have hfin := h114 d M hd hI hno
      rw [hs1, hs2] at hfin
      simp only [m5_foreseeLives_33, hkl, eM_neg d (by omega), hd0, g0'.2.2.1, hT, rest_c hm g0' g1' hb, (rs_ok g0 (t + k)).2, ep_c g5', show m3_setting 3 M = some (cg M 401 0 3, M) from setting_e (j := 3) (by decide) M, show m3_setting 2 M = some (cg M 401 0 2, M) from setting_e (j := 2) (by decide) M, q2, q3, ei_1, eI_add, zbd_s, zbv_s, zgd_t, Bool.and_true, Bool.true_and, Bool.and_self, if_true, if_false, e_01, eq_self, Bool.false_eq_true]
      cases d2 : eEp MR (nI (t + k)) <;> cases hp <;> simp only [d2, Bool.and_true, Bool.and_false, Bool.false_and, Bool.true_and, Bool.false_eq_true, if_true, if_false, reduceCtorEq, Nat.add_zero] at hfin ⊢
      · exact hfin
      · exact hfin
      · exact hfin
      · rw [Nat.add_assoc]; exact hfin
