/-- what may change while it is asked whether some course agrees -/
def eQr (MC0 MC : cM) : Prop := eF [506, 508] MC0 MC ∧ (∀ b k, cp MC 901 b k = cp MC0 901 b k) ∧ ePq MC
theorem eQr_g8 {MC0 MC : cM} {MR : rM} (g8 : eG8 MC0 MR) (h : eQr MC0 MC) : eG8 MC MR := eG8_fr2 g8 h.1 (eH_refl (K := [])) h.2.2 rfl rfl
theorem some_c {m t0 d A : Nat} {MC0 MC : cM} {MR : rM} (g0 : eG0 m t0 MC0 MR) (g8 : eG8 MC0 MR) (h1 : cg MC0 4 0 1 = nI d) (hd1 : 1 ≤ d) (hd : d ≤ 5) (hA : A ≤ 3) (h6 : rg MR 1312 0 6 = nI A) (hI : eQr MC0 MC) (w : Int32) : ∃ MC', m4_someAgrees w MC = some (if eAny MR w A d then 1 else 0, MC') ∧ eQr MC0 MC' := by
  have h1' : cg MC 4 0 1 = nI d := by rw [hI.1 4 0 1 rfl, h1]
  obtain ⟨M1, e1, f1, p1, q1⟩ := weigh_c (eQr_g8 g8 hI) h1' hd w
  have hI1 : eQr MC0 M1 := ⟨eF_trans hI.1 (eF_mono f1 rfl), fun b k => by rw [← hI.2.1 b k]; unfold cp; rw [p1], by have := hI.2.2; unfold ePq cp at *; rw [p1]; exact this⟩
  have h506 : ∀ M, eF [508] M1 M → ∀ t s, t < d → s < 6 → m4_missedAt (nI t) (nI s) M = some (nI (eMis MR w t s), M) := by
    intro M hF t s ht hs
    rw [missed_c (by omega) hs, hF 506 0 _ rfl, q1 t s ht hs]
  unfold m4_someAgrees
  rw [e1, zbv_s]
  have hres : (if eAny MR w A d then (1 : Int32) else 0) = if A < eMn (eE MR w (d - 1)) (fun _ => true) 6 then 0 else 1 := by
    unfold eAny
    by_cases h : eMn (eE MR w (d - 1)) (fun _ => true) 6 ≤ A
    · rw [decide_eq_true h, if_pos rfl, if_neg (by omega)]
    · rw [decide_eq_false h, if_neg (by decide), if_pos (by omega)]
  rw [hres]
  refine eloop (σ := cM) (fun f s M => ∃ MC', m4_someAgrees_7 f (nI s) M = some (if A < eMn (eE MR w (d - 1)) (fun _ => true) 6 then 0 else 1, MC') ∧ eQr MC0 MC') (fun s M => eF [508] M1 M ∧ M.2 = M1.2 ∧ ∀ v, v < s → cg M 508 (cp M 4 0 8) v = nI (eE MR w 0 v)) (m := 6) (k0 := 0) (by omega) ?_ ?_ (zfu_gt (by omega)) ⟨eF_refl, rfl, fun v h => absurd h (by omega)⟩
  · rintro f M ⟨i1, i2, i3⟩
    simp only [m4_someAgrees_7, show ((6 : Int32) ≤ nI 6) = True from eq_true (by decide), zbd_s, zbv_s, zgd_t, Bool.and_true, Bool.true_and, Bool.and_self, if_true, if_false, e_01, eq_self, Bool.false_eq_true]
    have hM : eQr MC0 M := ⟨eF_trans hI1.1 (eF_mono i1 rfl), fun b k => by rw [← hI1.2.1 b k]; unfold cp; rw [i2], by have := hI1.2.2; unfold ePq cp at *; rw [i2]; exact this⟩
    refine eloop (σ := cM) (fun f t M => ∃ MC', m4_someAgrees_33 f (nI t) M = some (if A < eMn (eE MR w (d - 1)) (fun _ => true) 6 then 0 else 1, MC') ∧ eQr MC0 MC') (fun t M => eF [508] M1 M ∧ eQr MC0 M ∧ ∀ v, v < 6 → cg M 508 (cp M 4 0 8) v = nI (eE MR w (t - 1) v)) (m := d) (k0 := 1) hd1 ?_ ?_ (zfu_gt (by omega)) ⟨i1, hM, i3⟩
    · rintro f M ⟨j1, j2, j3⟩
      have hd' : cg M 4 0 1 = nI d := by rw [j2.1 4 0 1 rfl, h1]
      have hq : cp M 4 0 8 < 2 := by rcases j2.2.2 with h | h <;> omega
      have hset : m3_setting 6 M = some (nI A, M) := by
        rw [show m3_setting 6 M = some (cg M 401 0 6, M) from setting_e (j := 6) (by decide) M, j2.1 401 0 6 rfl, (g0.2.2.2.2 6 (by decide)).1, h6]
      simp only [m4_someAgrees_33, hd', eI_le (show d < 2 ^ 31 by omega) (show d < 2 ^ 31 by omega), show (d ≤ d) = True from eq_true (by omega), zbd_s, zbv_s, zgd_t, Bool.and_true, Bool.true_and, Bool.and_self, if_true, if_false, e_01, eq_self, Bool.false_eq_true]
      refine eloop0 (fun f s => ∃ MC', m4_someAgrees_102 f (nI (eMn (eE MR w (d - 1)) (fun _ => true) s)) (nI s) M = some (if A < eMn (eE MR w (d - 1)) (fun _ => true) 6 then 0 else 1, MC') ∧ eQr MC0 MC') (m := 6) (k0 := 0) (by omega) ?_ ?_ (zfu_gt (by omega))
      · intro f
        have hle := eMn_100 (eE MR w (d - 1)) (fun _ => true) 6
        simp only [m4_someAgrees_102, show ((6 : Int32) ≤ nI 6) = True from eq_true (by decide), hset, eI_lt (show A < 2 ^ 31 by omega) (show eMn (eE MR w (d - 1)) (fun _ => true) 6 < 2 ^ 31 by omega), zbd_s, zbv_s, zgd_t, Bool.and_true, Bool.true_and, Bool.and_self, if_true, if_false, e_01, eq_self, Bool.false_eq_true]
        refine ⟨M, ?_, j2⟩
        split <;> rfl
      · intro f s _ hs ih
        have hle := eMn_100 (eE MR w (d - 1)) (fun _ => true) s
        have hE := eE_le MR w (d - 1) s
        rw [eMn_s] at ih
        simp only [if_true] at ih
        simp only [m4_someAgrees_102, mJ9_min, show ((6 : Int32) ≤ nI s) = False from eq_false (by rw [show (6 : Int32) = nI 6 from rfl, eI_le (by omega) (by omega)]; omega), blt_t hq, ezin_nI (show s < 6 by omega) (show 6 < 2 ^ 31 by decide), ex_nI (show s < 2 ^ 31 by omega), j3 s hs, eI_lt (show eE MR w (d - 1) s < 2 ^ 31 by omega) (show eMn (eE MR w (d - 1)) (fun _ => true) s < 2 ^ 31 by omega), ep1, zbd_s, zbv_s, zgd_t, Bool.and_true, Bool.true_and, Bool.and_self, if_true, if_false, e_01, eq_self, Bool.false_eq_true]
        by_cases c : eE MR w (d - 1) s < eMn (eE MR w (d - 1)) (fun _ => true) s
        · simp only [c, if_true, zbd_s] at ih ⊢; exact ih
        · simp only [c, if_false, zbd_s] at ih ⊢; exact ih
    · rintro f t M ht1 ht ⟨j1, j2, j3⟩ ih
      have hd' : cg M 4 0 1 = nI d := by rw [j2.1 4 0 1 rfl, h1]
      obtain ⟨q, hq⟩ : ∃ q, q = cp M 4 0 8 := ⟨_, rfl⟩
      obtain ⟨r, hr⟩ : ∃ r, r = cp M 4 0 9 := ⟨_, rfl⟩
      have hqr : q < 2 ∧ r < 2 ∧ q ≠ r := by rcases j2.2.2 with h | h <;> omega
      rw [← hq] at j3
      simp only [m4_someAgrees_33, hd', eI_le (show d < 2 ^ 31 by omega) (show t < 2 ^ 31 by omega), show (d ≤ t) = False from eq_false (by omega), zbd_s, zbv_s, zgd_t, Bool.and_true, Bool.true_and, Bool.and_self, if_true, if_false, e_01, eq_self, Bool.false_eq_true]
      refine eloop (σ := cM) (fun f' s N => ∃ MC', m4_someAgrees_43 (m4_someAgrees_33 f) f' (nI t) (nI s) N = some (if A < eMn (eE MR w (d - 1)) (fun _ => true) 6 then 0 else 1, MC') ∧ eQr MC0 MC') (fun s N => eF [508] M1 N ∧ N.2 = M.2 ∧ eQr MC0 N ∧ (∀ v, v < 6 → cg N 508 q v = nI (eE MR w (t - 1) v)) ∧ ∀ v, v < s → cg N 508 r v = nI (eE MR w t v)) (m := 6) (k0 := 0) (by omega) ?_ ?_ (zfu_gt (by omega)) ⟨j1, rfl, j2, j3, fun v h => absurd h (by omega)⟩
      · rintro f' N ⟨l1, l2, l3, l4, l5⟩
        have hcq : cp N 4 0 8 = q := by unfold cp; rw [l2]; exact hq.symm
        have hcr : cp N 4 0 9 = r := by unfold cp; rw [l2]; exact hr.symm
        simp only [m4_someAgrees_43, show ((6 : Int32) ≤ nI 6) = True from eq_true (by decide), hcq, hcr, ep1, zbd_s, zbv_s, zgd_t, Bool.and_true, Bool.true_and, Bool.and_self, if_true, if_false, e_01, eq_self, Bool.false_eq_true]
        have c8 : cp (cps (cps N 4 0 8 r) 4 0 9 q) 4 0 8 = r := by simp [cp_cps]
        have c9 : cp (cps (cps N 4 0 8 r) 4 0 9 q) 4 0 9 = q := by simp [cp_cps]
        refine ih (cps (cps N 4 0 8 r) 4 0 9 q) ⟨l1, ⟨l3.1, fun b k => by rw [cp_cps, if_neg (by omega), cp_cps, if_neg (by omega)]; exact l3.2.1 b k, ?_⟩, fun v hv => ?_⟩
        · unfold ePq; rw [c8, c9]; omega
        · rw [c8]; show cg N 508 r v = _; rw [Nat.add_sub_cancel]; exact l5 v hv
      · rintro f' s N _ hs ⟨l1, l2, l3, l4, l5⟩ ih'
        have hcq : cp N 4 0 8 = q := by unfold cp; rw [l2]; exact hq.symm
        have hcr : cp N 4 0 9 = r := by unfold cp; rw [l2]; exact hr.symm
        have har := around_c (f := eE MR w (t - 1)) (eQr_g8 g8 l3) hs hcq hqr.1 (fun a ha => ⟨eE_le MR w (t - 1) a, l4 a ha⟩)
        have hun : eE MR w t s = eMn (eE MR w (t - 1)) (fun a => eGo MR a s) 6 + eMis MR w t s := by
          obtain ⟨u, rfl⟩ : ∃ u, t = u + 1 := ⟨t - 1, by omega⟩
          rfl
        simp only [m4_someAgrees_43, show ((6 : Int32) ≤ nI s) = False from eq_false (by rw [show (6 : Int32) = nI 6 from rfl, eI_le (by omega) (by omega)]; omega), har, h506 N l1 t s ht hs, hcr, blt_t hqr.2.1, ezin_nI (show s < 6 by omega) (show 6 < 2 ^ 31 by decide), ex_nI (show s < 2 ^ 31 by omega), eI_add, ep1, zbd_s, zbv_s, zgd_t, Bool.and_true, Bool.true_and, Bool.and_self, if_true, if_false, e_01, eq_self, Bool.false_eq_true]
        rw [← hun]
        refine ih' _ ⟨eF_cs l1 rfl, l2, ⟨eF_cs l3.1 rfl, fun b k => l3.2.1 b k, l3.2.2⟩, fun v hv => ?_, fun v hv => ?_⟩
        · rw [cg_cs, if_neg (by omega)]; exact l4 v hv
        · by_cases hvs : v = s
          · subst hvs; simp [cg_cs]
          · rw [cg_cs, if_neg (by omega)]; exact l5 v (by omega)
  · rintro f s M _ hs ⟨i1, i2, i3⟩ ih
    have hq : cp M 4 0 8 < 2 := by
      have : cp M 4 0 8 = cp M1 4 0 8 := by unfold cp; rw [i2]
      rw [this]; rcases hI1.2.2 with h | h <;> omega
    simp only [m4_someAgrees_7, show ((6 : Int32) ≤ nI s) = False from eq_false (by rw [show (6 : Int32) = nI 6 from rfl, eI_le (by omega) (by omega)]; omega), show m4_missedAt 0 (nI s) M = some (nI (eMis MR w 0 s), M) from h506 M i1 0 s (by omega) hs, blt_t hq, ezin_nI (show s < 6 by omega) (show 6 < 2 ^ 31 by decide), ex_nI (show s < 2 ^ 31 by omega), ep1, zbd_s, zbv_s, zgd_t, Bool.and_true, Bool.true_and, Bool.and_self, if_true, if_false, e_01, eq_self, Bool.false_eq_true]
    refine ih _ ⟨eF_cs i1 rfl, i2, fun v hv => ?_⟩
    by_cases hvs : v = s
    · subst hvs; rw [cp_cs]; simp [cg_cs]; rfl
    · rw [cp_cs, cg_cs, if_neg (by omega)]; exact i3 v (by omega)
theorem bits_e {a : Nat} (h : a < 1024) (M : rM) : m12_bits (nI a) M = some (nI (eBc a), M) := by
  unfold m12_bits eBc
  refine eloop0 (fun f k => m12_bits_4 f (nI a) (nI (eNum k (fun j => a.testBit j))) (nI k) M = some (nI (eNum 10 (fun j => a.testBit j)), M)) (m := 10) (k0 := 0) (by omega) ?_ ?_ (zfu_gt (by omega))
  · intro f
    simp only [m12_bits_4, show ((10 : Int32) ≤ nI 10) = True from eq_true (by decide), zbd_s, zbv_s, zgd_t, Bool.and_true, Bool.true_and, Bool.and_self, if_true, if_false, e_01, eq_self, Bool.false_eq_true]
  · intro f k _ hk ih
    rw [eNum_s] at ih
    simp only [m12_bits_4, show ((10 : Int32) ≤ nI k) = False from eq_false (by rw [show (10 : Int32) = nI 10 from rfl, eI_le (by omega) (by omega)]; omega), zshr1 (show k < 32 by omega), eb_nI a k (by omega), ep1, zbd_s, zbv_s, zgd_t, Bool.and_true, Bool.true_and, Bool.and_self, if_true, if_false, e_01, eq_self, Bool.false_eq_true]
    cases c : a.testBit k with
    | false => simp only [c, Bool.false_eq_true, if_false, Int32.add_zero, Nat.add_zero] at ih ⊢; exact ih
    | true => simp only [c, if_true, ep1] at ih ⊢; exact ih
theorem any_e {d A : Nat} {MC : cM} {MR : rM} (g8 : eG8 MC MR) (h67 : rg MR 12 0 67 = nI d) (hd1 : 1 ≤ d) (hd : d ≤ 5) (hA : A ≤ 3) (h6 : rg MR 1312 0 6 = nI A) (k4 : Int32 → Int32 → rM → Option (Int32 × rM)) (x1 x2 : Int32) : m12_quarrel_35 k4 x1 x2 MR = m12_quarrel_72 k4 x1 x2 (if eAny MR (rg MR 12 0 71 ||| x2) A d then 1 else 0) MR := by
  have hp : 6 ^ d ≤ 6 ^ 5 := Nat.pow_le_pow_right (by decide) hd
  have hp5 : (6 : Nat) ^ 5 = 7776 := by decide
  obtain ⟨w, hw⟩ : ∃ w, w = rg MR 12 0 71 ||| x2 := ⟨_, rfl⟩
  unfold m12_quarrel_35
  rw [← hw]
  have hyes : ∀ f k c, k ≤ 6 ^ d → c < 6 ^ d → eTo MR w d c ≤ A → m12_quarrel_40 k4 (f + 1) x1 x2 1 (nI k) MR = m12_quarrel_72 k4 x1 x2 (if eAny MR w A d then 1 else 0) MR := by
    intro f k c hk hc1 hc2
    have ht : eAny MR w A d = true := (eAny_ok MR w (by omega) hd1).mpr ⟨c, hc1, hc2⟩
    simp only [m12_quarrel_40, all_e h67 hd, ht, e_01, zbd_s, zbv_s, zgd_t, Bool.and_true, Bool.true_and, Bool.and_self, if_true, if_false, e_01, eq_self, Bool.false_eq_true]
    split <;> rfl
  refine eloop0 (fun f k => (∀ c, c < k → ¬ eTo MR w d c ≤ A) → m12_quarrel_40 k4 (f + 1) x1 x2 0 (nI k) MR = m12_quarrel_72 k4 x1 x2 (if eAny MR w A d then 1 else 0) MR) (m := 6 ^ d) (k0 := 0) (f := 99999) (Nat.zero_le _) ?_ ?_ (by omega) (fun c h => absurd h (by omega))
  · intro f hno
    have hf : eAny MR w A d = false := by
      cases h : eAny MR w A d with
      | false => rfl
      | true => obtain ⟨c, c1, c2⟩ := (eAny_ok MR w (by omega) hd1).mp h; exact absurd c2 (hno c c1)
    simp only [m12_quarrel_40, all_e h67 hd, eI_le (show 6 ^ d < 2 ^ 31 by omega) (show 6 ^ d < 2 ^ 31 by omega), show (6 ^ d ≤ 6 ^ d) = True from eq_true (by omega), hf, zbd_s, zbv_s, zgd_t, Bool.and_true, Bool.true_and, Bool.and_self, if_true, if_false, e_01, eq_self, Bool.false_eq_true]
  · intro f k _ hk ih hno
    rw [m12_quarrel_40]
    simp only [all_e h67 hd, eI_le (show 6 ^ d < 2 ^ 31 by omega) (show k < 2 ^ 31 by omega), show (6 ^ d ≤ k) = False from eq_false (by omega), ← hw, agrees_e g8 h67 hd1 hd (show k < 2 ^ 31 by omega) hA h6, ep1, zbd_s, zbv_s, zgd_t, Bool.and_true, Bool.true_and, Bool.and_self, if_true, if_false, e_01, eq_self, Bool.false_eq_true]
    by_cases hag : eTo MR w d k ≤ A
    · simp only [hag, if_true]
      exact hyes f (k + 1) k (by omega) hk hag
    · simp only [hag, if_false]
      exact ih (fun c hc => by
        by_cases hck : c = k
        · subst hck; exact hag
        · exact hno c (by omega))
