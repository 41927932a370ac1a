/-- costs as natural numbers -/
def eCost (M : rM) (j : Nat) : Nat := nx (rg M 1312 0 j)
theorem cost_ok {m t j : Nat} {MC : cM} {MR : rM} (g0 : eG0 m t MC MR) (hj : j < 4) : eCost MR j ≤ 20 ∧ rg MR 1312 0 j = nI (eCost MR j) := by
  obtain ⟨a1, a2, a3, a4⟩ := g0.2.2.2.2 j (by omega)
  have h20 : zsv 1 j = 20 := by
    have : ∀ j, j < 4 → zsv 1 j = 20 := by decide
    exact this j hj
  rw [h20] at a4
  obtain ⟨a, ha, e⟩ := eI_ofl (b := 20) a2 a4 (by decide)
  unfold eCost
  rw [e, ex_nI (by omega)]
  exact ⟨ha, rfl⟩
def eRs (M : rM) (b T : Nat) : Nat := if eOn M b (nI T) then eCost M 1 else eCost M 0
theorem rs_ok {m t b : Nat} {MC : cM} {MR : rM} (g0 : eG0 m t MC MR) (T : Nat) : eRs MR b T ≤ 20 ∧ eRt MR b (nI T) = nI (eRs MR b T) := by
  unfold eRs eRt
  split
  · exact cost_ok g0 (by decide)
  · exact cost_ok g0 (by decide)
/-- own costs of the first k ticks, and what each child costs -/
def eOw (M : rM) (b t : Nat) (hp : Bool) (k : Nat) : Nat := eSig k (fun i => eRs M b (t + i) + if eEp M (nI (t + i)) && hp then eCost M 2 else 0)
def eHr (M : rM) (t : Nat) (k : Nat) : Nat := eSig k (fun i => if eEp M (nI (t + i)) then eCost M 3 else 0)
def eTot (M : rM) (b t : Nat) (hp : Bool) (ch k : Nat) : Nat := eOw M b t hp k + ch * eHr M t k
def eLf (M : rM) (b t : Nat) (hp : Bool) (ch : Nat) : Nat := match eFd (fun i => decide (nx (rg M 1302 0 b) < eTot M b t hp ch (i + 1))) 1000 0 with
  | none => 1000
  | some i => i
theorem eOw_le {m t : Nat} {MC : cM} {MR : rM} (g0 : eG0 m t MC MR) (b : Nat) (hp : Bool) (k : Nat) : eOw MR b t hp k ≤ 40 * k := by
  induction k with
  | zero => exact Nat.le_refl _
  | succ k ih =>
    unfold eOw at *
    rw [eSig_s]
    have h1 := (rs_ok (b := b) g0 (t + k)).1
    have h2 := (cost_ok g0 (show 2 < 4 by decide)).1
    split <;> omega
theorem eHr_le {m t : Nat} {MC : cM} {MR : rM} (g0 : eG0 m t MC MR) (k : Nat) : eHr MR t k ≤ 20 * k := by
  induction k with
  | zero => exact Nat.le_refl _
  | succ k ih =>
    unfold eHr at *
    rw [eSig_s]
    have h2 := (cost_ok g0 (show 3 < 4 by decide)).1
    split <;> omega
theorem eTot_le {m t : Nat} {MC : cM} {MR : rM} (g0 : eG0 m t MC MR) (b : Nat) (hp : Bool) {ch k : Nat} (hc : ch ≤ 10) (hk : k ≤ 1000) : eTot MR b t hp ch k ≤ 300000 := by
  unfold eTot
  have h1 := eOw_le g0 b hp k
  have h2 := eHr_le g0 k
  have : ch * eHr MR t k ≤ 10 * eHr MR t k := Nat.mul_le_mul_right _ hc
  omega
theorem eTot_s (M : rM) (b t : Nat) (hp : Bool) (ch k : Nat) : eTot M b t hp ch (k + 1) = eTot M b t hp ch k + (eRs M b (t + k) + if eEp M (nI (t + k)) then (if hp then eCost M 2 else 0) + ch * eCost M 3 else 0) := by
  unfold eTot eOw eHr
  rw [eSig_s, eSig_s, Nat.mul_add]
  cases eEp M (nI (t + k)) <;> cases hp <;> simp <;> omega
theorem pow_ok {m b : Nat} {MC : cM} {MR : rM} (g1 : eG1 m MC MR) (hb : b < 10) : nx (rg MR 1302 0 b) ≤ 30000 ∧ rg MR 1302 0 b = nI (nx (rg MR 1302 0 b)) := by
  have h := (g1.1 b hb).2.2.1
  obtain ⟨a, ha, e⟩ := eI_ofl (b := 30000) h.2.1 h.2.2 (by decide)
  rw [e, ex_nI (by omega)]
  exact ⟨ha, rfl⟩
theorem life_e {m t b : Nat} {MC : cM} {MR : rM} (hm : m ≤ 10) (g0 : eG0 m t MC MR) (g1 : eG1 m MC MR) (g5 : eG5 MC MR) (hb : b < m) (ch : Nat) (hc : ch ≤ 10) (hp : Bool) : m12_lifeFor (nI b) (if hp then 1 else 0) (nI ch) MR = some (nI (eLf MR b t hp ch), MR) := by
  have hb10 : b < 10 := by omega
  have hon := (g1.2.2.1 b hb).2.1
  have c0 := (cost_ok g0 (show 0 < 4 by decide))
  have c1 := (cost_ok g0 (show 1 < 4 by decide))
  have c2 := (cost_ok g0 (show 2 < 4 by decide))
  have c3 := (cost_ok g0 (show 3 < 4 by decide))
  have pw := pow_ok g1 hb10
  unfold m12_lifeFor eLf
  refine eloop0 (fun f k => m12_lifeFor_6 f (nI b) (if hp then 1 else 0) (nI ch) (nI (eTot MR b t hp ch k)) (nI k) MR = some (nI (match eFd (fun i => decide (nx (rg MR 1302 0 b) < eTot MR b t hp ch (i + 1))) (1000 - k) k with
    | none => 1000
    | some i => i), MR)) (m := 1000) (k0 := 0) (by omega) ?_ ?_ (zfu_gt (by omega))
  · intro f
    simp only [m12_lifeFor_6, show ((1000 : Int32) ≤ nI 1000) = True from eq_true (by decide), Nat.sub_self, eFd, zbd_s, zbv_s, zgd_t, Bool.and_true, Bool.true_and, Bool.and_self, if_true, if_false, e_01, eq_self, Bool.false_eq_true]
    rfl
  · intro f k _ hk ih
    rw [show 1000 - k = (1000 - (k + 1)) + 1 by omega]
    have htot := eTot_le g0 b hp hc (show k + 1 ≤ 1000 by omega)
    have hs := eTot_s MR b t hp ch k
    have hcmp : (nI (eTot MR b t hp ch (k + 1)) ≤ rg MR 1302 0 b) = ¬ (nx (rg MR 1302 0 b) < eTot MR b t hp ch (k + 1)) := by
      rw [pw.2, eI_le (by omega) (by omega), ex_nI (by omega)]; refine propext ?_; omega
    simp only [m12_lifeFor_6, m12_lifeFor_44, m12_lifeFor_68, m12_lifeFor_81, show ((1000 : Int32) ≤ nI k) = False from eq_false (by rw [show (1000 : Int32) = nI 1000 from rfl, eI_le (by omega) (by omega)]; omega), g0.2.2.2.1, eI_add, isOn_e hb10 _ _ hon, ep_e g5, show zin 0 7 = true from rfl, show zin 1 7 = true from rfl, show zin 2 7 = true from rfl, show zin 3 7 = true from rfl, ezin_nI (show b < 10 by omega) (show 10 < 2 ^ 31 by decide), ex_nI (show b < 2 ^ 31 by omega), nx_0, nx_k 1 (by decide), nx_k 2 (by decide), nx_k 3 (by decide), c0.2, c1.2, c2.2, c3.2, ei_1, ep1, eFd, zbd_s, zbv_s, zgd_t, Bool.and_true, Bool.true_and, Bool.and_self, if_true, if_false, e_01, eq_self, Bool.false_eq_true]
    have hfin : ∀ v : Int32, v = nI (eTot MR b t hp ch (k + 1)) → (if v ≤ rg MR 1302 0 b then m12_lifeFor_6 f (nI b) (if hp then 1 else 0) (nI ch) v (nI (k + 1)) MR else some (nI k, MR)) = some (nI (match if decide (nx (rg MR 1302 0 b) < eTot MR b t hp ch (k + 1)) = true then some k else eFd (fun i => decide (nx (rg MR 1302 0 b) < eTot MR b t hp ch (i + 1))) (1000 - (k + 1)) (k + 1) with
      | none => 1000
      | some i => i), MR) := by
      intro v hv
      rw [hv]
      by_cases hlt : nx (rg MR 1302 0 b) < eTot MR b t hp ch (k + 1)
      · rw [if_neg (by rw [hcmp]; simpa using hlt), decide_eq_true hlt, if_pos rfl]
      · rw [if_pos (by rw [hcmp]; exact hlt), ih, decide_eq_false hlt, if_neg (by decide)]
    unfold eRs at hs
    cases d1 : eOn MR b (nI (t + k)) <;> cases d2 : eEp MR (nI (t + k)) <;> cases hp <;> simp only [d1, d2, Bool.false_eq_true, if_true, if_false, reduceCtorEq] at hs ⊢ <;> refine hfin _ ?_ <;> rw [hs] <;> simp only [eI_mul, eI_add, Int32.add_zero, Int32.zero_add, Nat.add_zero, Nat.zero_add]
