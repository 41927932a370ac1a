/-! power foretold -/
def eEp (M : rM) (T : Int32) : Bool := !(decide (rg M 12 0 40 ≤ 0)) && decide (zrem T (rg M 12 0 41) = 0)
theorem ep_e {MC : cM} {MR : rM} (g5 : eG5 MC MR) (T : Int32) : m12_isEpoch T MR = some (if eEp MR T then 1 else 0, MR) := by
  unfold m12_isEpoch eEp
  rcases g5 with ⟨h1, h2⟩ | ⟨a, e, c, a1, a2, a3, a4, a5, a6, a7, a8, a9, a10⟩
  · rw [h1]; simp
  · have hz : znz (nI e) = true := znz_pos (by rw [show (0 : Int32) = nI 0 from rfl, eI_lt (by omega) (by omega)]; omega)
    simp only [a6, a8, eI_pos (show a < 2 ^ 31 by omega), show (a = 0) = False from eq_false (by omega), hz, zbd_s, zbv_s, zgd_t, Bool.and_true, Bool.true_and, Bool.and_self, if_true, if_false, e_01, eq_self, Bool.false_eq_true]
    by_cases h : zrem T (nI e) = 0 <;> simp [h]
theorem ep_c {MC : cM} {MR : rM} (g5 : eG5 MC MR) (T : Int32) : m7_beginsEpoch 1 T MC = some (if eEp MR T then 1 else 0, MC) := by
  unfold m7_beginsEpoch eEp
  rcases g5 with ⟨h1, h2⟩ | ⟨a, e, c, a1, a2, a3, a4, a5, a6, a7, a8, a9, a10⟩
  · rw [h1, h2]; simp [zgd_t, show Nat.blt 1 2 = true from rfl]
  · have hz : znz (nI e) = true := znz_pos (by rw [show (0 : Int32) = nI 0 from rfl, eI_lt (by omega) (by omega)]; omega)
    simp only [a6, a8, a9, eI_pos (show a < 2 ^ 31 by omega), eI_pos (show e < 2 ^ 31 by omega), show (a = 0) = False from eq_false (by omega), show (e = 0) = False from eq_false (by omega), hz, show Nat.blt 1 2 = true from rfl, zbd_s, zbv_s, zgd_t, Bool.and_true, Bool.true_and, Bool.and_self, if_true, if_false, e_01, eq_self, Bool.false_eq_true]
    by_cases h : zrem T (nI e) = 0 <;> simp [h]
def eKid (M : rM) (m b : Nat) : Nat := eNum m (fun a => decide (rg M 1309 0 a = nI b))
theorem kid_c {m t b : Nat} {MC : cM} {MR : rM} (hm : m ≤ 10) (g0 : eG0 m t MC MR) (g2 : eG2 m MC MR) : m3_children (nI b) MC = some (nI (eKid MR m b), MC) := by
  unfold m3_children eKid
  refine eloop0 (fun f k => m3_children_4 f (nI b) (nI (eNum k (fun a => decide (rg MR 1309 0 a = nI b)))) (nI k) MC = some (nI (eNum m (fun a => decide (rg MR 1309 0 a = nI b))), MC)) (Nat.zero_le m) ?_ ?_ (zfu_gt (by omega))
  · intro f
    simp only [m3_children_4, g0.1, eI_le (show m < 2 ^ 31 by omega) (show m < 2 ^ 31 by omega), show (m ≤ m) = True from eq_true (by omega), zbd_s, zbv_s, zgd_t, Bool.and_true, Bool.true_and, Bool.and_self, if_true, if_false, e_01, eq_self, Bool.false_eq_true]
  · intro f k _ hk ih
    have hk10 : k < 10 := by omega
    rw [← ih, eNum_s]
    simp only [m3_children_4, m3_children_27, g0.1, eI_le (show m < 2 ^ 31 by omega) (show k < 2 ^ 31 by omega), show (m ≤ k) = False from eq_false (by omega), of_y hk10, blt_t hk10, (g2.1 k hk).1, ep1, zbd_s, zbv_s, zgd_t, Bool.and_true, Bool.true_and, Bool.and_self, if_true, if_false, e_01, eq_self, Bool.false_eq_true]
    by_cases c : rg MR 1309 0 k = nI b <;> simp [c, ep1]
theorem kid_e {m b : Nat} {MR : rM} (hm : m ≤ 10) (h0 : rg MR 12 0 0 = nI m) : m12_childrenOf (nI b) MR = some (nI (eKid MR m b), MR) := by
  unfold m12_childrenOf eKid
  refine eloop0 (fun f k => m12_childrenOf_4 f (nI b) (nI (eNum k (fun a => decide (rg MR 1309 0 a = nI b)))) (nI k) MR = some (nI (eNum m (fun a => decide (rg MR 1309 0 a = nI b))), MR)) (Nat.zero_le m) ?_ ?_ (zfu_gt (by omega))
  · intro f
    simp only [m12_childrenOf_4, h0, eI_le (show m < 2 ^ 31 by omega) (show m < 2 ^ 31 by omega), show (m ≤ m) = True from eq_true (by omega), zbd_s, zbv_s, zgd_t, Bool.and_true, Bool.true_and, Bool.and_self, if_true, if_false, e_01, eq_self, Bool.false_eq_true]
  · intro f k _ hk ih
    have hk10 : k < 10 := by omega
    rw [← ih, eNum_s]
    simp only [m12_childrenOf_4, m12_childrenOf_28, h0, eI_le (show m < 2 ^ 31 by omega) (show k < 2 ^ 31 by omega), show (m ≤ k) = False from eq_false (by omega), ezin_nI (show k < 10 by omega) (show 10 < 2 ^ 31 by decide), ex_nI (show k < 2 ^ 31 by omega), ep1, zbd_s, zbv_s, zgd_t, Bool.and_true, Bool.true_and, Bool.and_self, if_true, if_false, e_01, eq_self, Bool.false_eq_true]
    by_cases c : rg MR 1309 0 k = nI b <;> simp [c, ep1]
theorem eNum_lt {n : Nat} {p : Nat → Bool} {j : Nat} (hj : j < n) (h : p j = false) : eNum n p < n := by
  induction n with
  | zero => omega
  | succ n ih =>
    rw [eNum_s]
    by_cases hjn : j = n
    · subst hjn; have := eNum_le j p; rw [h]; simp; omega
    · have := ih (by omega); split <;> omega
theorem eKid_lt {m b : Nat} {MC : cM} {MR : rM} (hm : m ≤ 10) (g2 : eG2 m MC MR) (hb : b < m) : eKid MR m b < 10 := by
  have : eKid MR m b < m := by
    unfold eKid
    refine eNum_lt (j := b) hb ?_
    rw [decide_eq_false_iff_not]
    rcases (g2.1 b hb).2.2 with h | ⟨_, _, _, p, p1, p2, p3⟩
    · rw [h.1]; intro hc; rw [eq_comm, nI_m1 (by omega)] at hc; exact hc
    · rw [p3, eI_inj (by omega) (by omega)]; exact p2
  omega
def eRt (M : rM) (b : Nat) (T : Int32) : Int32 := if eOn M b T then rg M 1312 0 1 else rg M 1312 0 0
theorem rest_c {m t b : Nat} {MC : cM} {MR : rM} (hm : m ≤ 10) (g0 : eG0 m t MC MR) (g1 : eG1 m MC MR) (hb : b < m) (T : Int32) : m5_restIn b T MC = some (eRt MR b T, MC) := by
  unfold m5_restIn m5_restIn_17 eRt
  simp only [blt_t (show b < 10 by omega), wakes_c g1 hm hb, ei_1, show m3_setting 0 MC = some (cg MC 401 0 0, MC) from setting_e (j := 0) (by decide) MC, show m3_setting 1 MC = some (cg MC 401 0 1, MC) from setting_e (j := 1) (by decide) MC, (g0.2.2.2.2 0 (by decide)).1, (g0.2.2.2.2 1 (by decide)).1, zbd_s, zbv_s, zgd_t, Bool.and_true, Bool.true_and, Bool.and_self, if_true, if_false, e_01, eq_self, Bool.false_eq_true]
  cases eOn MR b T <;> simp
theorem o_foretold {n : Nat} {MC : cM} {MR : rM} (h : eRel n MC MR) (x1 x2 : Int32) : eO n (m11_foretold x1 x2 MC) (m12_foretold x1 x2 MR) := by
  have h' := h
  obtain ⟨m, t, hm, ht, g0, g1, g2, g3, g4, g5, g6, g7, g8, g9⟩ := h
  unfold m11_foretold m12_foretold
  rcases e_bx x1 m hm with hb | ⟨b, hb, rfl⟩
  · simp only [kn_n g0.1 hb, ib_n g0.2.1 hm hb, zbd_s, zbv_s, zgd_t, Bool.and_true, Bool.true_and, Bool.and_self, if_true, if_false, e_01, eq_self, Bool.false_eq_true]
    exact eO_same ⟨m, t, hm, ht, g0, g1, g2, g3, g4, g5, g6, g7, g8, g9⟩
  have hb10 : b < 10 := by omega
  simp only [kn_y g0.1 hm hb, ib_y g0.2.1 hm hb, of_y hb10, blt_t hb10, ezin_nI hb10 (show 10 < 2 ^ 31 by decide), ex_nI (show b < 2 ^ 31 by omega), zbd_s, zbv_s, zgd_t, Bool.and_true, Bool.true_and, Bool.and_self, if_true, if_false, e_01, eq_self, Bool.false_eq_true]
  rcases (Classical.em ((0 : Int32) ≤ x2 ∧ x2 ≤ 1000)).symm with h2 | h2
  · simp only [out_y h2, in_n h2, zbd_s, zbv_s, zgd_t, Bool.and_true, Bool.true_and, Bool.and_self, if_true, if_false, e_01, eq_self, Bool.false_eq_true]
    exact eO_same ⟨m, t, hm, ht, g0, g1, g2, g3, g4, g5, g6, g7, g8, g9⟩
  simp only [out_n h2.1 h2.2, in_y h2.1 h2.2, zbd_s, zbv_s, zgd_t, Bool.and_true, Bool.true_and, Bool.and_self, if_true, if_false, e_01, eq_self, Bool.false_eq_true]
  obtain ⟨q, hq, rfl⟩ := eI_ofl (b := 1000) h2.1 h2.2 (by decide)
  have hon := (g1.2.2.1 b hb).2.1
  have s3 := (g0.2.2.2.2 3 (by decide)).1
  have s2 := (g0.2.2.2.2 2 (by decide)).1
  have key : ∀ (hp : Int32) (ec : Int32), ec = (rg MR 1312 0 3 * nI (eKid MR m b)) + (if hp = 0 then 0 else rg MR 1312 0 2) → ∃ r, m5_spentIn_49 (nI q) b ec MC = some (r, MC) ∧ m12_foretoldFor (nI b) (nI q) hp (nI (eKid MR m b)) MR = some (r, MR) := by
    intro hp ec hec
    unfold m5_spentIn_49 m12_foretoldFor
    rw [g0.2.2.2.1]
    refine eloop (σ := Int32) (fun f k s => ∃ r, m5_spentIn_55 f (nI q) b ec s (nI k) MC = some (r, MC) ∧ m12_foretoldFor_9 f (nI b) (nI q) hp (nI (eKid MR m b)) s (nI (t + k)) MR = some (r, MR)) (fun _ _ => True) (m := q) (k0 := 0) (by omega) ?_ ?_ (zfu_gt (by omega)) trivial
    · intro f s _
      simp only [m5_spentIn_55, m12_foretoldFor_9, g0.2.2.2.1, eI_add, eI_le (show q < 2 ^ 31 by omega) (show q < 2 ^ 31 by omega), show (q ≤ q) = True from eq_true (by omega), eI_le (show t + q < 2 ^ 31 by omega) (show t + q < 2 ^ 31 by omega), show (t + q ≤ t + q) = True from eq_true (by omega), zbd_s, zbv_s, zgd_t, Bool.and_true, Bool.true_and, Bool.and_self, if_true, if_false, e_01, eq_self, Bool.false_eq_true]
      exact ⟨s, rfl, rfl⟩
    · intro f k s _ hk _ ih
      have ih' := fun s => ih s trivial
      simp only [m5_spentIn_55, m5_spentIn_108, m12_foretoldFor_9, m12_foretoldFor_41, m12_foretoldFor_70, m12_foretoldFor_84, g0.2.2.1, g0.2.2.2.1, eI_add, eI_le (show q < 2 ^ 31 by omega) (show k < 2 ^ 31 by omega), show (q ≤ k) = False from eq_false (by omega), eI_le (show t + q < 2 ^ 31 by omega) (show t + k < 2 ^ 31 by omega), show (t + q ≤ t + k) = False from eq_false (by omega), rest_c hm g0 g1 hb, ep_c g5, ep_e g5, isOn_e hb10 _ _ hon, show zin 0 7 = true from rfl, show zin 1 7 = true from rfl, show zin 2 7 = true from rfl, show zin 3 7 = true from rfl, nx_0, nx_k 1 (by decide), nx_k 2 (by decide), nx_k 3 (by decide), ei_1, ep1, zbd_s, zbv_s, zgd_t, Bool.and_true, Bool.true_and, Bool.and_self, if_true, if_false, e_01, eq_self, Bool.false_eq_true]
      rw [show t + (k + 1) = t + k + 1 by omega] at ih'
      unfold eRt
      cases c1 : eOn MR b (nI (t + k)) <;> cases c2 : eEp MR (nI (t + k)) <;> simp only [Bool.false_eq_true, if_true, if_false, reduceCtorEq]
      · simpa [Int32.add_zero] using ih' (s + rg MR 1312 0 0)
      · by_cases c3 : hp = 0
        · subst c3
          simp only [if_true] at hec ⊢
          have := ih' ((s + rg MR 1312 0 0) + ec)
          rw [hec, Int32.add_zero] at this ⊢
          rw [Int32.zero_add, Int32.mul_comm (nI (eKid MR m b))]
          exact this
        · simp only [c3, if_false] at hec ⊢
          have := ih' ((s + rg MR 1312 0 0) + ec)
          rw [hec] at this ⊢
          rw [Int32.mul_comm (nI (eKid MR m b)), Int32.add_comm (rg MR 1312 0 2)]
          exact this
      · simpa [Int32.add_zero] using ih' (s + rg MR 1312 0 1)
      · by_cases c3 : hp = 0
        · subst c3
          simp only [if_true] at hec ⊢
          have := ih' ((s + rg MR 1312 0 1) + ec)
          rw [hec, Int32.add_zero] at this ⊢
          rw [Int32.zero_add, Int32.mul_comm (nI (eKid MR m b))]
          exact this
        · simp only [c3, if_false] at hec ⊢
          have := ih' ((s + rg MR 1312 0 1) + ec)
          rw [hec] at this ⊢
          rw [Int32.mul_comm (nI (eKid MR m b)), Int32.add_comm (rg MR 1312 0 2)]
          exact this
  simp only [m5_spentIn, m12_foretold_40, of_y hb10, blt_t hb10, (g2.1 b hb).1, show m3_setting 3 MC = some (cg MC 401 0 3, MC) from setting_e (j := 3) (by decide) MC, show m3_setting 2 MC = some (cg MC 401 0 2, MC) from setting_e (j := 2) (by decide) MC, s3, s2, kid_c hm g0 g2, kid_e hm g0.2.1, zbd_s, zbv_s, zgd_t, Bool.and_true, Bool.true_and, Bool.and_self, if_true, if_false, e_01, eq_self, Bool.false_eq_true]
  by_cases hpar : rg MR 1309 0 b = -1
  · obtain ⟨r, e1, e2⟩ := key 0 (rg MR 1312 0 3 * nI (eKid MR m b)) (by simp [Int32.add_zero])
    simp only [hpar, if_true, e1, e2, zbd_s]
    exact eO_same h'
  · obtain ⟨r, e1, e2⟩ := key 1 (rg MR 1312 0 3 * nI (eKid MR m b) + rg MR 1312 0 2) (by simp)
    simp only [hpar, if_false, e1, e2, zbd_s]
    exact eO_same h'
