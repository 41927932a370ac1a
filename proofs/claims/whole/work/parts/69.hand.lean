def eSp (pw v : Int32) : Int32 := if v ≤ pw then pw - v else 0
theorem eSp_ok {pw v : Int32} (h : 0 ≤ pw) (h2 : pw ≤ 30000) (hv : 0 ≤ v) : 0 ≤ eSp pw v ∧ eSp pw v ≤ 30000 := by
  unfold eSp; split <;> constructor <;> lia
theorem spend_c {b : Nat} (hb : b < 10) (v : Int32) (M : cM) : m2_spend b v M = some (cs M 2 b 2 (eSp (cg M 2 b 2) v)) := by
  unfold m2_spend mJ9_min eSp
  simp only [blt_t hb, zbd_s, zbv_s, zgd_t, Bool.and_true, Bool.true_and, Bool.and_self, if_true, if_false, e_01, eq_self, Bool.false_eq_true]
  by_cases h1 : v < cg M 2 b 2
  · simp only [h1, Int32.le_of_lt h1, zbd_s, zbv_s, zgd_t, Bool.and_true, Bool.true_and, Bool.and_self, if_true, if_false, e_01, eq_self, Bool.false_eq_true]
  · by_cases h2 : v ≤ cg M 2 b 2
    · have : v = cg M 2 b 2 := by lia
      simp only [h1, zbd_s, zbv_s, zgd_t, Bool.and_true, Bool.true_and, Bool.and_self, if_true, if_false, e_01, eq_self, Bool.false_eq_true, this, Int32.sub_self]; simp [zbd_s]
    · simp only [h1, h2, zbd_s, zbv_s, zgd_t, Bool.and_true, Bool.true_and, Bool.and_self, if_true, if_false, e_01, eq_self, Bool.false_eq_true, Int32.sub_self]
theorem spend_e {b : Nat} (hb : b < 10) (v : Int32) (M : rM) : m12_spend (nI b) v M = some (rs M 1302 0 b (eSp (rg M 1302 0 b) v)) := by
  unfold m12_spend m12_spend_27 eSp
  simp only [ezin_nI (show b < 10 by omega) (show 10 < 2 ^ 31 by decide), ex_nI (show b < 2 ^ 31 by omega), zbd_s, zbv_s, zgd_t, Bool.and_true, Bool.true_and, Bool.and_self, if_true, if_false, e_01, eq_self, Bool.false_eq_true]
  split <;> rfl
theorem eG1_pow {m b : Nat} {MC : cM} {MR : rM} (g1 : eG1 m MC MR) {w : Int32} (hw : 0 ≤ w ∧ w ≤ 30000) : eG1 m (cs MC 2 b 2 w) (rs MR 1302 0 b w) := by
  obtain ⟨a1, a2, a3, a4⟩ := g1
  refine ⟨fun c hc => ?_, fun c j hc hj => ?_, fun c hc => ?_, fun c hc h => ?_⟩
  · have := a1 c hc
    simp only [cg_cs, rg_rs]
    by_cases hcb : c = b
    · subst hcb; simp; obtain ⟨b1, b2, b3, b4⟩ := this; exact ⟨b1, b2, hw, b4⟩
    · simp [hcb]; exact this
  · have := a2 c j hc hj
    simp only [cg_cs, rg_rs]; simp; exact this
  · have := a3 c hc
    simp only [cg_cs, rg_rs]; simp; exact this
  · have := a4 c hc h
    simp only [cg_cs, rg_rs]; simp; exact this
/-- the first from k on, in d steps -/
def eFd (p : Nat → Bool) : Nat → Nat → Option Nat
  | 0, _ => none
  | d + 1, k => if p k then some k else eFd p d (k + 1)
theorem eFd_ok (p : Nat → Bool) (d k a : Nat) (h : eFd p d k = some a) : k ≤ a ∧ a < k + d ∧ p a = true := by
  induction d generalizing k with
  | zero => cases h
  | succ d ih =>
    unfold eFd at h
    split at h
    · cases h; exact ⟨Nat.le_refl _, by omega, by assumption⟩
    · have := ih (k + 1) h; exact ⟨by omega, by omega, this.2.2⟩
def ePG (MR : rM) (b p a : Nat) : Bool := eLiv MR a && (eb (rg MR 1307 0 b) a && eb (rg MR 1362 0 a) p)
def eCh (MR : rM) (m b : Nat) : Nat → Nat → Option (Nat × Nat)
  | 0, _ => none
  | d + 1, p => if eb (rg MR 1362 0 b) p then eCh MR m b d (p + 1) else match eFd (ePG MR b p) m 0 with
    | none => eCh MR m b d (p + 1)
    | some a => some (p, a)
/-- while programs are handed on -/
def eHv (n m t ps : Nat) (MC0 : cM) (MR0 : rM) (MC : cM) (MR : rM) : Prop := eF [10202, 10216, 317, 704] MC0 MC ∧ MC.2 = MC0.2 ∧ eH [1302, 1362, 1364, 1363, 1323, 1365] MR0 MR ∧ eG1 m MC MR ∧ eG7 n m MC MR ∧ (∀ b, b < m → cg MC 704 0 b = rg MR0 1362 0 b) ∧ (∀ b, b < m → rg MR 1363 0 b = rg MR0 1362 0 b ∧ rg MR 1323 0 b = if rg MR0 1302 0 b ≤ 0 then 1 else 0) ∧ (∀ j, j < 80 → rg MR 1365 0 j = rg MR0 1364 0 j) ∧ (∀ b p, b < 10 → p < 8 → eb (rg MR0 1362 0 b) p = true → rg MR 1364 0 (8 * b + p) = rg MR0 1364 0 (8 * b + p))
theorem ao_c {b : Nat} (hb : b < 10) (M : cM) : m6_aheadOf (nI b) M = some (cg M 704 0 b, M) := by
  unfold m6_aheadOf
  simp only [show (nI b < 0) = False from eq_false (by rw [show (0 : Int32) = nI 0 from rfl, eI_lt (by omega) (by omega)]; omega), show ((10 : Int32) ≤ nI b) = False from eq_false (by rw [show (10 : Int32) = nI 10 from rfl, eI_le (by omega) (by omega)]; omega), ezin_nI (show b < 10 by omega) (show 10 < 2 ^ 31 by decide), ex_nI (show b < 2 ^ 31 by omega), zbd_s, zbv_s, zgd_t, Bool.and_true, Bool.true_and, Bool.and_self, if_true, if_false, e_01, eq_self, Bool.false_eq_true]
def eGvC (a b p : Nat) (M : cM) : cM :=
  let M2 := cs (cs (cs M 2 b 16 (cg M 2 b 16 ||| zshl 1 (nI p))) 317 b p (cg M 317 a p)) 2 b 2 (eSp (cg M 2 b 2) (cg M 401 0 3))
  cs M2 2 a 2 (eSp (cg M2 2 a 2) (cg M 401 0 2))
theorem give_c {a b p : Nat} (ha : a < 10) (hb : b < 10) (hp : p < 8) (M : cM) : m6_give a b (nI p) M = some (eGvC a b p M) := by
  unfold m6_give
  simp only [blt_t ha, blt_t hb, pv_c ha hp, tp_c hb hp, show m3_setting 3 = fun M => some (cg M 401 0 3, M) from funext (fun M => setting_e (j := 3) (by decide) M), show m3_setting 2 = fun M => some (cg M 401 0 2, M) from funext (fun M => setting_e (j := 2) (by decide) M), spend_c ha, spend_c hb, zbd_s, zbv_s, zgd_t, Bool.and_true, Bool.true_and, Bool.and_self, if_true, if_false, e_01, eq_self, Bool.false_eq_true]
  have q1 : cg (cs (cs M 2 b 16 (cg M 2 b 16 ||| zshl 1 (nI p))) 317 b p (cg M 317 a p)) 2 b 2 = cg M 2 b 2 := by simp [cg_cs]
  have q2 : ∀ v, cg (cs (cs (cs M 2 b 16 (cg M 2 b 16 ||| zshl 1 (nI p))) 317 b p (cg M 317 a p)) 2 b 2 v) 401 0 2 = cg M 401 0 2 := by intro v; simp [cg_cs]
  have q3 : cg (cs (cs M 2 b 16 (cg M 2 b 16 ||| zshl 1 (nI p))) 317 b p (cg M 317 a p)) 401 0 3 = cg M 401 0 3 := by simp [cg_cs]
  unfold eGvC
  simp only [q1, q2, q3]
def eGvR (a b p : Nat) (M : rM) : rM :=
  let M2 := rs (rs (rs M 1362 0 b (rg M 1362 0 b ||| zshl 1 (nI p))) 1364 0 (8 * b + p) (rg M 1365 0 (8 * a + p))) 1302 0 b (eSp (rg M 1302 0 b) (rg M 1312 0 3))
  rs M2 1302 0 a (eSp (rg M2 1302 0 a) (rg M 1312 0 2))
theorem eHv_give {n m t ps a b p : Nat} {MC0 MC : cM} {MR0 MR : rM} (hm : m ≤ 10) (hI : eHv n m t ps MC0 MR0 MC MR) (g0 : eG0 m t MC0 MR0) (ha : a < m) (hb : b < m) (hp : p < 8) (hd : eb (rg MR0 1362 0 b) p = false) (hh : eb (rg MR0 1362 0 a) p = true) : eHv n m t ps MC0 MR0 (eGvC a b p MC) (eGvR a b p MR) := by
  obtain ⟨i1, i2, i3, i4, i5, i6, i7, i8, i9⟩ := hI
  have e3 : cg MC 401 0 3 = rg MR0 1312 0 3 ∧ rg MR 1312 0 3 = rg MR0 1312 0 3 ∧ 0 ≤ rg MR0 1312 0 3 := ⟨by rw [i1 401 0 3 rfl]; exact (g0.2.2.2.2 3 (by decide)).1, i3 1312 0 3 rfl, (g0.2.2.2.2 3 (by decide)).2.1⟩
  have e2 : cg MC 401 0 2 = rg MR0 1312 0 2 ∧ rg MR 1312 0 2 = rg MR0 1312 0 2 ∧ 0 ≤ rg MR0 1312 0 2 := ⟨by rw [i1 401 0 2 rfl]; exact (g0.2.2.2.2 2 (by decide)).1, i3 1312 0 2 rfl, (g0.2.2.2.2 2 (by decide)).2.1⟩
  have hv : cg MC 317 a p = rg MR 1365 0 (8 * a + p) := by rw [i8 _ (by omega), ← i9 a p (by omega) hp hh]; exact (i5.2.2 a p (by omega) hp).1
  have hq : cg MC 2 b 16 = rg MR 1362 0 b := (i5.2.1 b (by omega)).1
  obtain ⟨MC1, hMC1⟩ : ∃ X, X = cs (cs MC 2 b 16 (cg MC 2 b 16 ||| zshl 1 (nI p))) 317 b p (cg MC 317 a p) := ⟨_, rfl⟩
  obtain ⟨MR1, hMR1⟩ : ∃ X, X = rs (rs MR 1362 0 b (rg MR 1362 0 b ||| zshl 1 (nI p))) 1364 0 (8 * b + p) (rg MR 1365 0 (8 * a + p)) := ⟨_, rfl⟩
  have f1 : eF [10216, 317] MC MC1 := by rw [hMC1]; exact (by repeat (first | exact eF_refl | refine eF_cs ?_ rfl))
  have f2 : eH [1362, 1364] MR MR1 := by rw [hMR1]; exact (by repeat (first | exact eH_refl | refine eH_rs ?_ rfl | refine eH_rsl ?_))
  have g1a : eG1 m MC1 MR1 := eG1_fr i4 f1 f2 rfl rfl
  have pb := (i4.1 b (by omega)).2.2.1
  have w1 := eSp_ok pb.2.1 pb.2.2 e3.2.2
  have g1b := eG1_pow (b := b) g1a w1
  have pa := (g1b.1 a (by omega)).2.2.1
  have w2 := eSp_ok pa.2.1 pa.2.2 e2.2.2
  have g1c := eG1_pow (b := a) g1b w2
  have hC : eGvC a b p MC = cs (cs MC1 2 b 2 (eSp (rg MR 1302 0 b) (rg MR0 1312 0 3))) 2 a 2 (eSp (rg (rs MR1 1302 0 b (eSp (rg MR 1302 0 b) (rg MR0 1312 0 3))) 1302 0 a) (rg MR0 1312 0 2)) := by
    unfold eGvC
    dsimp only
    rw [← hMC1, pb.1, e3.1, e2.1, pa.1]
  have hR : eGvR a b p MR = rs (rs MR1 1302 0 b (eSp (rg MR 1302 0 b) (rg MR0 1312 0 3))) 1302 0 a (eSp (rg (rs MR1 1302 0 b (eSp (rg MR 1302 0 b) (rg MR0 1312 0 3))) 1302 0 a) (rg MR0 1312 0 2)) := by
    unfold eGvR
    dsimp only
    rw [← hMR1, e3.2.1, e2.2.1]
  rw [hC, hR]
  refine ⟨eF_cs (eF_cs (eF_trans i1 (eF_mono f1 rfl)) rfl) rfl, by rw [← i2, hMC1]; rfl, eH_rs (eH_rs (eH_trans i3 (eH_mono f2 rfl)) rfl) rfl, g1c, ?_, fun c hc => ?_, fun c hc => ?_, fun j hj => ?_, fun c q hc hq hcq => ?_⟩
  · have g7a : eG7 n m MC1 MR1 := by
      obtain ⟨q1, q2, q3⟩ := i5
      rw [hMC1, hMR1]
      refine ⟨q1, fun c hc => ?_, fun c k hc hk => ?_⟩
      · have := q2 c hc
        simp only [cg_cs, rg_rs]
        by_cases hcb : c = b
        · subst hcb; simp [hq]; exact ⟨this.2.1, fun h => by omega⟩
        · simp [hcb]; exact this
      · have := q3 c k hc hk
        simp only [cg_cs, rg_rs]
        by_cases hcb : c = b ∧ k = p
        · obtain ⟨rfl, rfl⟩ := hcb
          simp [hv]
          rw [i8 _ (by omega), ← i9 a k (by omega) hp hh]
          exact (q3 a k (by omega) hp).2
        · rw [if_neg (by omega), if_neg (by omega), if_neg (by omega), if_neg (by omega)]; exact this
    exact eG7_fr g7a (eF_cs (eF_cs (eF_refl (K := [10202])) rfl) rfl) (eH_rs (eH_rs (eH_refl (K := [1302])) rfl) rfl) rfl rfl
  · rw [← i6 c hc, cg_cs, if_neg (by omega), cg_cs, if_neg (by omega)]; exact f1 704 0 c rfl
  · have := i7 c hc
    have d1 : rg MR1 1363 0 c = rg MR 1363 0 c := f2 1363 0 c rfl
    have d2 : rg MR1 1323 0 c = rg MR 1323 0 c := f2 1323 0 c rfl
    simp only [rg_rs]; simp [d1, d2]; exact this
  · have := i8 j hj
    have d1 : rg MR1 1365 0 j = rg MR 1365 0 j := f2 1365 0 j rfl
    simp only [rg_rs]; simp [d1]; exact this
  · have := i9 c q hc hq hcq
    have hne : ¬ (8 * c + q = 8 * b + p) := by
      intro h
      have h1 : c = b := by omega
      have h2 : q = p := by omega
      subst h1; subst h2; rw [hd] at hcq; cases hcq
    simp only [hMR1, rg_rs]; simp [hne]; exact this
theorem gets46_c {n m t ps b p : Nat} {MC0 MC : cM} {MR0 MR : rM} (hm : m ≤ 10) (g0 : eG0 m t MC0 MR0) (hI : eHv n m t ps MC0 MR0 MC MR) (hb : b < m) (hp : p < 8) (H : Int32) (hH : ∀ a, a < m → eb H a = (eb (rg MR0 1307 0 b) a && eLiv MR0 a)) (k17 : Int32 → Int32 → Int32 → cM → Option (Int32 × cM)) : m6_getsPart_46 k17 zfu (nI b) H (nI p) 0 MC = match eFd (ePG MR0 b p) m 0 with
    | none => k17 (nI b) H (nI (p + 1)) MC
    | some a => some (1, eGvC a b p MC) := by
  have hm3 : cg MC 3 0 4 = nI m := by rw [hI.1 3 0 4 rfl, g0.1]
  refine eloop0 (fun f k => m6_getsPart_46 k17 f (nI b) H (nI p) (nI k) MC = match eFd (ePG MR0 b p) (m - k) k with
    | none => k17 (nI b) H (nI (p + 1)) MC
    | some a => some (1, eGvC a b p MC)) (m := m) (k0 := 0) (by omega) ?_ ?_ (zfu_gt (by omega))
  · intro f
    simp only [m6_getsPart_46, m6_getsPart_115, hm3, eI_le (show m < 2 ^ 31 by omega) (show m < 2 ^ 31 by omega), show (m ≤ m) = True from eq_true (by omega), Nat.sub_self, eFd, ep1, zbd_s, zbv_s, zgd_t, Bool.and_true, Bool.true_and, Bool.and_self, if_true, if_false, e_01, eq_self, Bool.false_eq_true]
  · intro f k _ hk ih
    have hk10 : k < 10 := by omega
    rw [show m - k = (m - (k + 1)) + 1 by omega]
    simp only [m6_getsPart_46, m6_getsPart_109, hm3, eI_le (show m < 2 ^ 31 by omega) (show k < 2 ^ 31 by omega), show (m ≤ k) = False from eq_false (by omega), zshr1_0 (show k < 32 by omega), zshr1_0 (show p < 32 by omega), hH k hk, ao_c hk10, of_y hk10, of_y (show b < 10 by omega), hI.2.2.2.2.2.1 k hk, give_c hk10 (show b < 10 by omega) hp, ep1, eFd, zbd_s, zbv_s, zgd_t, Bool.and_true, Bool.true_and, Bool.and_self, if_true, if_false, e_01, eq_self, Bool.false_eq_true]
    rw [ih]
    by_cases c1 : eb (rg MR0 1307 0 b) k = true <;> by_cases c2 : eLiv MR0 k = true <;> by_cases c3 : eb (rg MR0 1362 0 k) p = true <;> simp [c1, c2, c3, ePG]
theorem gets_c {n m t ps b : Nat} {MC0 MC : cM} {MR0 MR : rM} (hm : m ≤ 10) (hps : ps ≤ 8) (g0 : eG0 m t MC0 MR0) (h6 : cg MC0 6 0 2 = nI ps) (hI : eHv n m t ps MC0 MR0 MC MR) (hb : b < m) : m6_getsPart (nI b) (eSet m (eLiv MR0)) MC = match eCh MR0 m b ps 0 with
    | none => some (0, MC)
    | some q => some (1, eGvC q.2 b q.1 MC) := by
  have hb10 : b < 10 := by omega
  have he : cg MC 2 b 9 = rg MR0 1307 0 b := by rw [(hI.2.2.2.1.1 b hb10).2.2.2.2.2.1.1]; exact hI.2.2.1 1307 0 b rfl
  have hs : cg MC 6 0 2 = nI ps := by rw [hI.1 6 0 2 rfl, h6]
  unfold m6_getsPart
  simp only [of_y hb10, blt_t hb10, he, zbd_s, zbv_s, zgd_t, Bool.and_true, Bool.true_and, Bool.and_self, if_true, if_false, e_01, eq_self, Bool.false_eq_true]
  have hH : ∀ a, a < m → eb (rg MR0 1307 0 b &&& eSet m (eLiv MR0)) a = (eb (rg MR0 1307 0 b) a && eLiv MR0 a) := by
    intro a ha; rw [eb_and, eb_set (by omega)]; simp [ha]
  refine eloop0 (fun f k => m6_getsPart_17 f (nI b) (rg MR0 1307 0 b &&& eSet m (eLiv MR0)) (nI k) MC = match eCh MR0 m b (ps - k) k with
    | none => some (0, MC)
    | some q => some (1, eGvC q.2 b q.1 MC)) (m := ps) (k0 := 0) (by omega) ?_ ?_ (zfu_gt (by omega))
  · intro f
    simp only [m6_getsPart_17, hs, eI_le (show ps < 2 ^ 31 by omega) (show ps < 2 ^ 31 by omega), show (ps ≤ ps) = True from eq_true (by omega), Nat.sub_self, eCh, zbd_s, zbv_s, zgd_t, Bool.and_true, Bool.true_and, Bool.and_self, if_true, if_false, e_01, eq_self, Bool.false_eq_true]
  · intro f k _ hk ih
    rw [show ps - k = (ps - (k + 1)) + 1 by omega]
    simp only [m6_getsPart_17, m6_getsPart_115, hs, eI_le (show ps < 2 ^ 31 by omega) (show k < 2 ^ 31 by omega), show (ps ≤ k) = False from eq_false (by omega), ao_c hb10, hI.2.2.2.2.2.1 b hb, zshr1_1 (show k < 32 by omega), gets46_c hm g0 hI hb (show k < 8 by omega) _ hH, ep1, eCh, zbd_s, zbv_s, zgd_t, Bool.and_true, Bool.true_and, Bool.and_self, if_true, if_false, e_01, eq_self, Bool.false_eq_true]
    by_cases c1 : eb (rg MR0 1362 0 b) k = true
    · simp only [c1, if_true]; exact ih
    · simp only [c1, if_false]
      cases eFd (ePG MR0 b k) m 0 with
      | none => exact ih
      | some a => rfl
