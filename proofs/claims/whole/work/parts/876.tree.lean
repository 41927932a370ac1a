/-! the first tree, how many there are, the lives -/
def qC (m : Nat) (N : rM) (b : Nat) : Nat := if eNum m (qMl m N b) = 0 then 1 else eNum m (qMl m N b)
def qPr (m : Nat) (N : rM) : Nat → Nat
  | 0 => 1
  | k + 1 => qPr m N k * qC m N k
theorem qPr_s (m : Nat) (N : rM) (k : Nat) : qPr m N (k + 1) = qPr m N k * qC m N k := rfl
theorem qC_ok {m b : Nat} {N : rM} (hm : m ≤ 10) : 1 ≤ qC m N b ∧ qC m N b ≤ 10 := by
  have := eNum_le m (qMl m N b)
  unfold qC
  split <;> omega
theorem qPr_ok {m k : Nat} {N : rM} (hm : m ≤ 10) : 1 ≤ qPr m N k ∧ qPr m N k ≤ 10 ^ k := by
  induction k with
  | zero => exact ⟨Nat.le_refl 1, Nat.le_refl 1⟩
  | succ k ih =>
    have h := qC_ok (b := k) (N := N) hm
    rw [qPr_s, Nat.pow_succ]
    exact ⟨Nat.mul_pos ih.1 h.1, Nat.mul_le_mul ih.2 h.2⟩
theorem qC_0 (m : Nat) (N : rM) : qC m N 0 = 1 := by
  unfold qC
  rw [if_pos (eNum_z.mpr (fun j _ => qMl_0 m N j))]
theorem qC_low {m b : Nat} {N : rM} (h : ¬ 2 ≤ qHo m N m b) : qC m N b = 1 ∧ eSet m (qMl m N b) = 0 := by
  have : ∀ j, j < m → qMl m N b j = false := fun j _ => by unfold qMl; rw [decide_eq_false h, Bool.false_and]
  have h0 := eNum_z.mpr this
  refine ⟨by unfold qC; rw [if_pos h0], ?_⟩
  rw [eSet_congr (q := fun _ => false) this]
  have : ∀ n, eSet n (fun _ => false) = 0 := by
    intro n
    induction n with
    | zero => rfl
    | succ n ih => rw [eSet_s, if_neg (by decide), ih]
  exact this m
theorem eFd_ex {p : Nat → Bool} {n : Nat} (h : ∃ a, a < n ∧ p a = true) : ∃ a, eFd p n 0 = some a := by
  cases h1 : eFd p n 0 with
  | some a => exact ⟨a, rfl⟩
  | none =>
    obtain ⟨a, h2, h3⟩ := h
    rw [eFd_nn h1 a (by omega) (by omega)] at h3; cases h3
theorem near_c {m t : Nat} {MC0 MC : cM} {MR : rM} (hm : m ≤ 10) (hm1 : 0 < m) (g0 : eG0 m t MC0 MR) (g1 : eG1 m MC0 MR) (hf : eF qK MC0 MC) (hp : MC.2 = MC0.2) (hst : ∀ b, b < m → cg MC 603 0 b = eM (qHo m MR m b)) : ∃ MC' x, m5_findNearer (eSet m (eLiv MR)) MC = some (nI x, MC') ∧ eF [604, 605] MC MC' ∧ MC'.2 = MC.2 ∧ (∀ b, b < m → cg MC' 604 0 b = eSet m (qMl m MR b) ∧ cg MC' 605 0 b = eM (qF m MR b 0)) ∧ x ≤ 200000 ∧ (x ≤ 20000 ↔ qPr m MR m ≤ 20000) := by
  obtain ⟨M1, a1, a2, a3, a4⟩ := fill604 0 MC
  obtain ⟨M2, b1, b2, b3, b4⟩ := fill605 (-1) M1
  unfold m5_findNearer
  rw [a1, zbv_s, b1, zbv_s]
  have e1 : ∀ b, ¬ 2 ≤ qHo m MR m b → (0 : Int32) = eSet m (qMl m MR b) ∧ (-1 : Int32) = eM (qF m MR b 0) := fun b h => by
    rw [(qC_low h).2, qF_0.mpr h, eM_0]; exact ⟨rfl, rfl⟩
  refine eloop (σ := cM × Nat) (fun f k s => ∃ MC' x, m5_findNearer_20 f (eSet m (eLiv MR)) (nI s.2) (nI k) s.1 = some (nI x, MC') ∧ eF [604, 605] MC MC' ∧ MC'.2 = MC.2 ∧ (∀ b, b < m → cg MC' 604 0 b = eSet m (qMl m MR b) ∧ cg MC' 605 0 b = eM (qF m MR b 0)) ∧ x ≤ 200000 ∧ (x ≤ 20000 ↔ qPr m MR m ≤ 20000)) (fun k s => eF [604, 605] MC s.1 ∧ s.1.2 = MC.2 ∧ (∀ b, b < k → cg s.1 604 0 b = eSet m (qMl m MR b) ∧ cg s.1 605 0 b = eM (qF m MR b 0)) ∧ (∀ b, k ≤ b → b < m → cg s.1 604 0 b = 0 ∧ cg s.1 605 0 b = -1) ∧ s.2 ≤ 200000 ∧ (s.2 = qPr m MR k ∨ (20000 < s.2 ∧ 20000 < qPr m MR k))) (s := (M2, 1)) (m := m) (k0 := 1) (by omega) ?_ ?_ (zfu_gt (by omega)) ⟨eF_trans (eF_mono a2 rfl) (eF_mono b2 rfl), b3.trans a3, fun b hb => ?_, fun b hb hbm => ?_, by omega, .inl ?_⟩
  · rintro f ⟨M, x⟩ ⟨i1, i2, i3, i4, i5, i6⟩
    dsimp only at i1 i2 i3 i4 i5 i6 ⊢
    have e34 : cg M 3 0 4 = nI m := by rw [i1 3 0 4 rfl, hf 3 0 4 rfl, g0.1]
    refine ⟨M, x, by rw [m5_findNearer_20, e34, if_pos (by rw [eI_le (by omega) (by omega)]; omega)], i1, i2, i3, i5, ?_⟩
    rcases i6 with h | ⟨h1, h2⟩
    · rw [h]
    · constructor <;> intro h <;> omega
  · rintro f k ⟨M, x⟩ hk1 hk ⟨i1, i2, i3, i4, i5, i6⟩ ih
    dsimp only at i1 i2 i3 i4 i5 i6 ⊢
    have hk10 : k < 10 := by omega
    have e34 : ∀ M', eF [604, 605] MC M' → cg M' 3 0 4 = nI m := fun M' h => by rw [h 3 0 4 rfl, hf 3 0 4 rfl, g0.1]
    have fM : eF qK MC0 M := eF_trans hf (eF_mono i1 rfl)
    have G0 := eG0_fr g0 fM (eH_refl (K := [])) rfl rfl
    have G1 := eG1_fr g1 fM (eH_refl (K := [])) rfl rfl
    have hle := qHo_le m MR m k
    have hv : ∀ b, b < m → cg M 603 0 b = eM (qHo m MR m b) := fun b hb => by rw [i1 603 0 b rfl]; exact hst b hb
    have hc := qC_ok (b := k) (N := MR) hm
    rw [m5_findNearer_20]
    simp only [e34 M i1, eI_le (show m < 2 ^ 31 by omega) (show k < 2 ^ 31 by omega), show (m ≤ k) = False from eq_false (by omega), show ((10 : Int32) ≤ nI k) = False from eq_false (by rw [show (10 : Int32) = nI 10 from rfl, eI_le (by omega) (by omega)]; omega), ezin_nI (show k < 10 by omega) (show 10 < 2 ^ 31 by decide), ex_nI (show k < 2 ^ 31 by omega), hv k hk, m5_findNearer_113, ep1, zbd_s, zbv_s, zgd_t, Bool.and_true, Bool.true_and, Bool.and_self, if_true, if_false, e_01, eq_self, Bool.false_eq_true]
    by_cases h2 : 2 ≤ qHo m MR m k
    · obtain ⟨y, hy⟩ : ∃ y, qHo m MR m k = y + 2 := ⟨qHo m MR m k - 2, by omega⟩
      have hset : eSet m (fun j => (eMate MR k j && eLiv MR j) && decide (cg M 603 0 j = nI y)) = eSet m (qMl m MR k) := by
        refine eSet_congr (fun a ha => ?_)
        have h3 := qHo_le m MR m a
        have : decide (cg M 603 0 a = nI y) = decide (qHo m MR m a + 1 = qHo m MR m k) := by
          congr 1
          rw [hv a ha, eM_nI (by omega) (by omega), hy]
          refine propext ?_; omega
        rw [this]
        unfold qMl
        rw [decide_eq_true h2, Bool.true_and]
        cases eMate MR k a <;> cases eLiv MR a <;> cases decide (qHo m MR m a + 1 = qHo m MR m k) <;> rfl
      obtain ⟨a, ha⟩ := eFd_ex (qMl_ne h2)
      obtain ⟨z, hz, ez, hbc⟩ := eBc_set hm (qMl m MR k)
      have hne : eNum m (qMl m MR k) ≠ 0 := by
        intro h
        obtain ⟨c, c1, c2⟩ := qMl_ne h2
        rw [eNum_z.mp h c c1] at c2; cases c2
      have hqc : eNum m (qMl m MR k) = qC m MR k := by unfold qC; rw [if_neg hne]
      have hqf : eM (qF m MR k 0) = nI a := by rw [qF_s (a := a) ha, eM_s]
      have x1 : ((1 : Int32) ≤ eM (qHo m MR m k)) = True := by
        rw [hy, eM_s, show (1 : Int32) = nI 1 from rfl, eI_le (by omega) (by omega)]; exact eq_true (by omega)
      have x2 : eM (qHo m MR m k) - 1 = nI y := by rw [hy, eM_s, nI_sub1]
      have x3 : (20000 : Int32) < nI x ↔ 20000 < x := by
        rw [show (20000 : Int32) = nI 20000 from rfl, eI_lt (by omega) (by omega)]
      obtain ⟨Ma, hMa⟩ : ∃ X, X = cs (cs M 604 0 k (eSet m (qMl m MR k))) 605 0 k (nI a) := ⟨_, rfl⟩
      have c604 : cg (cs M 604 0 k (eSet m (qMl m MR k))) 604 0 k = eSet m (qMl m MR k) := by rw [cg_cs, if_pos ⟨rfl, rfl, rfl⟩]
      have c604' : cg Ma 604 0 k = eSet m (qMl m MR k) := by rw [hMa, cg_cs, if_neg (by omega), c604]
      have hbit : ∀ M', mJ6_bitCount (eSet m (qMl m MR k)) M' = some (nI (qC m MR k), M') := fun M' => by rw [ez, bitC hz, hbc, hqc]
      simp only [x1, friends_c hm G0 G1 hk10, hv k hk, boxesAt_c hm (e34 M i1), x2, eSet_and (show m ≤ 31 by omega), hset, c604, ntz_set hm ha, ← hMa, c604', hbit, zbd_s, zbv_s, zgd_t, Bool.and_true, Bool.true_and, Bool.and_self, if_true, if_false, e_01, eq_self, Bool.false_eq_true]
      have step : ∀ x', x' ≤ 200000 → (x' = qPr m MR (k + 1) ∨ (20000 < x' ∧ 20000 < qPr m MR (k + 1))) → ∃ MC' y, m5_findNearer_20 f (eSet m (eLiv MR)) (nI x') (nI (k + 1)) Ma = some (nI y, MC') ∧ eF [604, 605] MC MC' ∧ MC'.2 = MC.2 ∧ (∀ b, b < m → cg MC' 604 0 b = eSet m (qMl m MR b) ∧ cg MC' 605 0 b = eM (qF m MR b 0)) ∧ y ≤ 200000 ∧ (y ≤ 20000 ↔ qPr m MR m ≤ 20000) := by
        intro x' h1 h2
        refine ih (Ma, x') ⟨by rw [hMa]; exact eF_cs (eF_cs i1 rfl) rfl, by rw [hMa]; exact i2, fun b hb => ?_, fun b hb hbm => ?_, h1, h2⟩
        · dsimp only
          by_cases hbk : b = k
          · rw [hbk, c604', hMa, cg_cs, if_pos ⟨rfl, rfl, rfl⟩, hqf]; exact ⟨rfl, rfl⟩
          · rw [hMa, cg_cs, if_neg (by omega), cg_cs, if_neg (by omega), cg_cs, if_neg (by omega), cg_cs, if_neg (by omega)]
            exact i3 b (by omega)
        · dsimp only
          rw [hMa, cg_cs, if_neg (by omega), cg_cs, if_neg (by omega), cg_cs, if_neg (by omega), cg_cs, if_neg (by omega)]
          exact i4 b (by omega) hbm
      by_cases hx : 20000 < x
      · rw [if_pos (x3.mpr hx)]
        refine step x i5 (.inr ⟨hx, ?_⟩)
        rw [qPr_s]
        have h20 : 20000 < qPr m MR k := by rcases i6 with h | h <;> omega
        exact Nat.lt_of_lt_of_le h20 (Nat.le_mul_of_pos_right _ hc.1)
      · rw [if_neg (fun h => hx (x3.mp h)), eI_mul]
        have hxp : x = qPr m MR k := by rcases i6 with h | h <;> omega
        have hmul : x * qC m MR k ≤ 20000 * 10 := Nat.mul_le_mul (by omega) hc.2
        refine step _ (by omega) (.inl ?_)
        rw [qPr_s, hxp]
    · have x1 : ((1 : Int32) ≤ eM (qHo m MR m k)) = False := by
        refine eq_false (fun h => ?_)
        have h3 : eM (qHo m MR m k) ≤ 0 := by rw [eM_pos (by omega)]; omega
        lia
      simp only [x1, if_false]
      refine ih (M, x) ⟨i1, i2, fun b hb => ?_, fun b hb hbm => i4 b (by omega) hbm, i5, ?_⟩
      · dsimp only
        by_cases hbk : b = k
        · rw [hbk, (i4 k (Nat.le_refl k) hk).1, (i4 k (Nat.le_refl k) hk).2]; exact e1 k h2
        · exact i3 b (by omega)
      · dsimp only
        rw [qPr_s, (qC_low h2).1, Nat.mul_one]; exact i6
  · dsimp only
    have hb0 : b = 0 := by omega
    subst hb0
    rw [b2 604 0 0 rfl, a4 0 (by omega), b4 0 (by omega)]
    exact e1 0 (by have := qHo_00 m MR m; omega)
  · dsimp only
    rw [b2 604 0 b rfl, a4 b (by omega), b4 b (by omega)]; exact ⟨rfl, rfl⟩
  · show 1 = qPr m MR 1
    rw [qPr_s, qC_0]; rfl
/-- has box b a parent in a tree -/
def qHp (m : Nat) (N : rM) (b : Nat) : Bool := !decide (qF m N b 0 = 0)
/-- the class's lives -/
theorem lives_all {m t : Nat} {MC0 MC : cM} {MR : rM} {P : Option (Int32 × cM) → Prop} (hm : m ≤ 10) (g0 : eG0 m t MC0 MR) (g1 : eG1 m MC0 MR) (g5 : eG5 MC0 MR) (hf : eF qK MC0 MC) (hp : MC.2 = MC0.2) (x1 : Int32) (h605 : ∀ b, b < m → cg MC 605 0 b = eM (qF m MR b 0)) (hk : ∀ M, eF [602] MC M → M.2 = MC.2 → (∀ b c, b < m → c < 10 → cg M 602 0 (10 * b + c) = nI (eLf MR b t (qHp m MR b) c)) → P (m5_findLongest_84 zfu x1 (-1) 0 M)) : P (m5_findLongest_43 zfu x1 0 MC) := by
  refine eloop (σ := cM) (fun f k M => P (m5_findLongest_43 f x1 (nI k) M)) (fun k M => eF [602] MC M ∧ M.2 = MC.2 ∧ ∀ b c, b < k → c < 10 → cg M 602 0 (10 * b + c) = nI (eLf MR b t (qHp m MR b) c)) (m := m) (k0 := 0) (by omega) ?_ ?_ (zfu_gt (by omega)) ⟨eF_refl, rfl, fun b c hb => absurd hb (by omega)⟩
  · rintro f M ⟨i1, i2, i3⟩
    rw [m5_findLongest_43, i1 3 0 4 rfl, hf 3 0 4 rfl, g0.1, if_pos (by rw [eI_le (by omega) (by omega)]; omega)]
    exact hk M i1 i2 i3
  · rintro f k M hk0 hk ⟨i1, i2, i3⟩ ih
    have hk10 : k < 10 := by omega
    have fM : eF qK MC0 M := eF_trans hf (eF_mono i1 rfl)
    obtain ⟨M', l1, l2, l3, l4, l5⟩ := lives_c (hp := qHp m MR k) hm (eG0_fr g0 fM (eH_refl (K := [])) rfl rfl) (eG1_fr g1 fM (eH_refl (K := [])) rfl rfl) (eG5_fr g5 fM (eH_refl (K := [])) rfl rfl) hk
    have fin : P (m5_findLongest_71 (m5_findLongest_43 f) x1 (nI k) (nI k) (if qHp m MR k then 1 else 0) M) := by
      unfold m5_findLongest_71
      rw [l1, zbv_s, ep1]
      refine ih M' ⟨eF_trans i1 l2, l3.trans i2, fun b c hb hc => ?_⟩
      by_cases hbk : b = k
      · rw [hbk]; exact l4 c (by omega) hc
      · rw [l5 _ (by omega)]; exact i3 b c (by omega) hc
    have hql : qF m MR k 0 ≤ m := qF_lt (by omega)
    rw [m5_findLongest_43]
    simp only [i1 3 0 4 rfl, hf 3 0 4 rfl, g0.1, eI_le (show m < 2 ^ 31 by omega) (show k < 2 ^ 31 by omega), show (m ≤ k) = False from eq_false (by omega), ezin_nI (show k < 10 by omega) (show 10 < 2 ^ 31 by decide), ex_nI (show k < 2 ^ 31 by omega), i1 605 0 k rfl, h605 k hk, eM_m1 (show qF m MR k 0 < 2 ^ 31 by omega), zbd_s, zbv_s, zgd_t, Bool.and_true, Bool.true_and, Bool.and_self, if_true, if_false, e_01, eq_self, Bool.false_eq_true]
    by_cases h0 : qF m MR k 0 = 0
    · simp only [h0, if_true]
      have : qHp m MR k = false := by unfold qHp; rw [decide_eq_true h0]; rfl
      rw [this] at fin; exact fin
    · simp only [h0, if_false]
      have : qHp m MR k = true := by unfold qHp; rw [decide_eq_false h0]; rfl
      rw [this] at fin; exact fin
/-! frames of lives -/
theorem eOn_fr {K : List Nat} {M M' : rM} (h : eH K M M') (d : eDj K [1303, 1304, 1305, 1306] = true) (b : Nat) (T : Int32) : eOn M' b T = eOn M b T := by
  unfold eOn eAt eLoc
  rw [eH_at h d 1303 0 b rfl, eH_at h d 1304 0 b rfl, eH_at h d 1305 0 b rfl, eH_at h d 1306 0 b rfl]
theorem eLf_fr {K : List Nat} {M M' : rM} (h : eH K M M') (d : eDj K [1303, 1304, 1305, 1306] = true) (d2 : eDj K [1302, 1312, 11240, 11241] = true) (b t : Nat) (hp : Bool) (ch : Nat) : eLf M' b t hp ch = eLf M b t hp ch := by
  have hc : ∀ j, eCost M' j = eCost M j := fun j => by unfold eCost; rw [eH_at h d2 1312 0 j rfl]
  have hr : ∀ T, eRs M' b T = eRs M b T := fun T => by unfold eRs; rw [eOn_fr h d, hc, hc]
  have he : ∀ T, eEp M' T = eEp M T := fun T => by unfold eEp; rw [eH_at h d2 12 0 40 rfl, eH_at h d2 12 0 41 rfl]
  have ht : ∀ k, eTot M' b t hp ch k = eTot M b t hp ch k := fun k => by
    unfold eTot eOw eHr
    simp only [hr, he, hc]
  unfold eLf
  simp only [ht, eH_at h d2 1302 0 b rfl]
def qKR : List Nat := [1346, 1347, 1348, 1350, 11249]
theorem cmp_le {a : Nat} (ha : a < 2 ^ 62) : (lg_cmp (eL a) (20000 : Int64) ≤ 0) ↔ a ≤ 20000 := by
  have e2 : (20000 : Int64) = eL 20000 := rfl
  have lt : ((20000 : Int64) < eL a) = (20000 < a) := by
    refine propext ?_
    rw [e2, Int64.lt_iff_toInt_lt]
    unfold eL
    rw [Int64.toInt_ofNat_of_lt (by omega), Int64.toInt_ofNat_of_lt (by omega)]
    omega
  unfold lg_cmp
  show (if (20000 : Int64) < eL a then (1 : Int32) else if eL a = 20000 then 0 else -1) ≤ 0 ↔ _
  by_cases h : 20000 < a
  · rw [if_pos (lt.mpr h)]
    constructor
    · intro h'; exact absurd h' (by decide)
    · intro h'; omega
  · rw [if_neg (fun h' => h (lt.mp h'))]
    constructor
    · intro _; omega
    · intro _
      split
      · exact Int32.le_refl 0
      · decide
/-- the reference's trees and lives -/
theorem pre_e {m t : Nat} {MC0 : cM} {MR MRa : rM} {P : Option (Int32 × rM) → Prop} (hm : m ≤ 10) (g0 : eG0 m t MC0 MR) (g1 : eG1 m MC0 MR) (g5 : eG5 MC0 MR) (hrd : qRd m MR MRa) (hk : ∀ N, qRd m MR N → (∀ b, b < m → rg N 1347 0 b = eM (qF m MR b 0)) → (∀ b c, b < m → c < 10 → rg N 1350 0 (20 * b + 2 * c) = nI (eLf MR b t false c) ∧ rg N 1350 0 (20 * b + 2 * c + 1) = nI (eLf MR b t true c)) → P (if qPr m MR m ≤ 20000 then m12_findLongest_168 zfu 0 (rs N 12 0 49 (-1)) else some (0, N))) : P (m12_findLongest_8 zfu 1 0 MRa) := by
  have n10 : ((1 : Int32) = 0) = False := eq_false (by decide)
  refine eloop (σ := rM) (fun f k N => P (m12_findLongest_8 f (eL (qPr m MR k)) (nI k) N)) (fun k N => qRd m MR N ∧ (∀ b, b < k → rg N 1347 0 b = eM (qF m MR b 0)) ∧ (∀ b c, b < k → c < 10 → rg N 1350 0 (20 * b + 2 * c) = nI (eLf MR b t false c) ∧ rg N 1350 0 (20 * b + 2 * c + 1) = nI (eLf MR b t true c))) (m := m) (k0 := 0) (by omega) ?_ ?_ (zfu_gt (by omega)) ⟨hrd, fun b hb => absurd hb (by omega), fun b c hb => absurd hb (by omega)⟩
  · rintro f N ⟨i1, i2, i3⟩
    have hpr := (qPr_ok (k := m) (N := MR) hm).2
    have hp10 : 10 ^ m ≤ 10000000000 := by
      have : ∀ m : Nat, m ≤ 10 → 10 ^ m ≤ 10000000000 := by decide
      exact this m hm
    have := hk N i1 i2 i3
    rw [m12_findLongest_8, i1.1 12 0 0 rfl, g0.2.1, if_pos (by rw [eI_le (by omega) (by omega)]; omega)]
    by_cases hc : qPr m MR m ≤ 20000
    · rw [if_pos ((cmp_le (by omega)).mpr hc)]
      rw [if_pos hc] at this; exact this
    · rw [if_neg (fun h => hc ((cmp_le (by omega)).mp h))]
      rw [if_neg hc] at this; exact this
  · rintro f k N hk0 hk ⟨i1, i2, i3⟩ ih
    have hk10 : k < 10 := by omega
    have e0 : rg N 12 0 0 = nI m := by rw [i1.1 12 0 0 rfl, g0.2.1]
    rw [m12_findLongest_8, e0, if_neg (by rw [eI_le (by omega) (by omega)]; omega)]
    have hc := qC_ok (b := k) (N := MR) hm
    -- behind the counting of choices
    have lives : P (m12_findLongest_69 (m12_findLongest_8 f) (nI k) (eL (qPr m MR k)) (nI (qC m MR k)) N) := by
      unfold m12_findLongest_69
      rw [first_e hm g0.2.1 i1 hk, zbd_s, ezin_nI hk10 (by decide), Bool.and_true, zgd_t, eL_of (by omega), eL_mul, ← qPr_s, ex_nI (by omega)]
      obtain ⟨Na, hNa⟩ : ∃ X, X = rs N 1347 0 k (eM (qF m MR k 0)) := ⟨_, rfl⟩
      rw [← hNa]
      have fa : eH [1347] N Na := by rw [hNa]; exact (by repeat (first | exact eH_refl | refine eH_rs ?_ rfl | refine eH_rsl ?_))
      have rd : ∀ N', eH [1350] Na N' → qRd m MR N' := fun N' h => ⟨eH_trans i1.1 (eH_trans (eH_mono fa rfl) (eH_mono h rfl)), fun b hb => by rw [h 1346 0 b rfl, fa 1346 0 b rfl]; exact i1.2 b hb⟩
      refine eloop (σ := rM) (fun f' c N' => P (m12_findLongest_86 (m12_findLongest_8 f) f' (eL (qPr m MR (k + 1))) (nI k) (nI c) N')) (fun c N' => eH [1350] Na N' ∧ (∀ b c', b < k → c' < 10 → rg N' 1350 0 (20 * b + 2 * c') = nI (eLf MR b t false c') ∧ rg N' 1350 0 (20 * b + 2 * c' + 1) = nI (eLf MR b t true c')) ∧ (∀ c', c' < c → rg N' 1350 0 (20 * k + 2 * c') = nI (eLf MR k t false c') ∧ rg N' 1350 0 (20 * k + 2 * c' + 1) = nI (eLf MR k t true c'))) (m := 10) (k0 := 0) (by omega) ?_ ?_ (zfu_gt (by omega)) ⟨eH_refl, fun b c' hb hc' => by rw [fa 1350 0 _ rfl, fa 1350 0 _ rfl]; exact i3 b c' hb hc', fun c' hc' => absurd hc' (by omega)⟩
      · rintro f' N' ⟨j1, j2, j3⟩
        rw [m12_findLongest_86, if_pos (show (10 : Int32) ≤ nI 10 from by decide), ep1]
        refine ih N' ⟨rd N' j1, fun b hb => ?_, fun b c hb hc => ?_⟩
        · rw [j1 1347 0 b rfl, hNa, rg_rs]
          by_cases hbk : b = k
          · rw [if_pos ⟨rfl, rfl, hbk⟩, hbk]
          · rw [if_neg (fun h => hbk h.2.2)]; exact i2 b (by omega)
        · by_cases hbk : b = k
          · rw [hbk]; exact j3 c hc
          · exact j2 b c (by omega) hc
      · rintro f' c N' hc0 hc10 ⟨j1, j2, j3⟩ ih2
        have lf : ∀ N'', eH [1350] Na N'' → ∀ hp : Bool, m12_lifeFor (nI k) (if hp then 1 else 0) (nI c) N'' = some (nI (eLf MR k t hp c), N'') := by
          intro N'' h hp
          have hh := (rd N'' h).1
          have := life_e (hp := hp) (ch := c) hm (eG0_fr g0 (eF_refl (K := [])) hh rfl rfl) (eG1_fr g1 (eF_refl (K := [])) hh rfl rfl) (eG5_fr g5 (eF_refl (K := [])) hh rfl rfl) hk (by omega)
          rw [eLf_fr hh rfl rfl] at this
          exact this
        have lf0 := lf N' j1 false
        obtain ⟨Nb, hNb⟩ : ∃ X, X = rs N' 1350 0 (20 * k + 2 * c) (nI (eLf MR k t false c)) := ⟨_, rfl⟩
        have jb : eH [1350] Na Nb := by rw [hNb]; exact eH_rs j1 rfl
        have lf1 := lf Nb jb true
        have e20 : (20 : Int32) * nI k + 2 * nI c = nI (20 * k + 2 * c) := by rw [show (20 : Int32) = nI 20 from rfl, show (2 : Int32) = nI 2 from rfl, eI_mul, eI_mul, eI_add]
        rw [show (if false = true then (1 : Int32) else 0) = 0 from rfl] at lf0
        rw [show (if true = true then (1 : Int32) else 0) = 1 from rfl] at lf1
        rw [m12_findLongest_86]
        simp only [show ((10 : Int32) ≤ nI c) = False from eq_false (by rw [show (10 : Int32) = nI 10 from rfl, eI_le (by omega) (by omega)]; omega), lf0, e20, ezin_nI (show 20 * k + 2 * c < 200 by omega) (show 200 < 2 ^ 31 by decide), ex_nI (show 20 * k + 2 * c < 2 ^ 31 by omega), ← hNb, lf1, ep1, ezin_nI (show 20 * k + 2 * c + 1 < 200 by omega) (show 200 < 2 ^ 31 by decide), ex_nI (show 20 * k + 2 * c + 1 < 2 ^ 31 by omega), zbd_s, zbv_s, zgd_t, Bool.and_true, Bool.true_and, Bool.and_self, if_true, if_false, e_01, eq_self, Bool.false_eq_true]
        refine ih2 _ ⟨eH_rs jb rfl, fun b c' hb hc' => ?_, fun c' hc' => ?_⟩
        · rw [hNb, rg_rs, if_neg (by omega), rg_rs, if_neg (by omega), rg_rs, if_neg (by omega), rg_rs, if_neg (by omega)]
          exact j2 b c' hb hc'
        · by_cases hcc : c' = c
          · subst hcc
            rw [rg_rs, if_neg (by omega), hNb, rg_rs, if_pos ⟨rfl, rfl, rfl⟩, rg_rs, if_pos ⟨rfl, rfl, rfl⟩]
            exact ⟨rfl, rfl⟩
          · rw [hNb, rg_rs, if_neg (by omega), rg_rs, if_neg (by omega), rg_rs, if_neg (by omega), rg_rs, if_neg (by omega)]
            exact j3 c' (by omega)
    refine eloop (σ := Unit) (fun f' a _ => P (m12_findLongest_22 (m12_findLongest_8 f) f' (eL (qPr m MR k)) (nI k) (nI (eNum a (qMl m MR k))) (nI a) N)) (fun _ _ => True) (s := ()) (m := m) (k0 := 0) (by omega) ?_ ?_ (zfu_gt (by omega)) trivial
    · rintro f' - -
      have hle := eNum_le m (qMl m MR k)
      rw [m12_findLongest_22, e0, if_pos (by rw [eI_le (by omega) (by omega)]; omega)]
      unfold qC at lives
      by_cases h0 : eNum m (qMl m MR k) = 0
      · rw [if_pos h0] at lives
        rw [if_pos (by rw [h0]; rfl)]
        exact lives
      · rw [if_neg h0] at lives
        rw [if_neg (fun h => h0 (by rw [eI_0 (by omega)] at h; exact h))]
        exact lives
    · rintro f' a - ha0 ha - ih2
      rw [m12_findLongest_22]
      simp only [e0, eI_le (show m < 2 ^ 31 by omega) (show a < 2 ^ 31 by omega), show (m ≤ a) = False from eq_false (by omega), may_e hm i1 hk ha, m12_findLongest_48, ep1, zbd_s, zbv_s, zgd_t, Bool.and_true, Bool.true_and, Bool.and_self, if_true, if_false, e_01, eq_self, Bool.false_eq_true]
      have := ih2 () trivial
      rw [eNum_s] at this
      cases hq : qMl m MR k a
      · rw [hq] at this
        simp only [zbd_s, zbv_s, zgd_t, Bool.and_true, Bool.true_and, Bool.and_self, if_true, if_false, e_01, eq_self, Bool.false_eq_true]
        rw [Int32.add_zero]
        exact this
      · rw [hq] at this
        simp only [n10, zbd_s, zbv_s, zgd_t, Bool.and_true, Bool.true_and, Bool.and_self, if_true, if_false, e_01, eq_self, Bool.false_eq_true]
        rw [if_pos rfl] at this
        exact this
