/-! the class's ways -/
theorem fill207 (v : Int32) (M0 : cM) : ∃ M, mJ7_fill_207 v M0 = some M ∧ eF [207] M0 M ∧ M.2 = M0.2 ∧ ∀ j, j < 100 → cg M 207 0 j = v := by
  unfold mJ7_fill_207
  refine eloop (σ := cM) (fun f k M => ∃ M', mJ7_fill_207_5 f v (nI k) 100 M = some M' ∧ eF [207] M0 M' ∧ M'.2 = M0.2 ∧ ∀ j, j < 100 → cg M' 207 0 j = v) (fun k M => eF [207] M0 M ∧ M.2 = M0.2 ∧ ∀ j, j < k → cg M 207 0 j = v) (m := 100) (k0 := 0) (by omega) ?_ ?_ (zfu_gt (by omega)) ⟨eF_refl, rfl, fun j hj => absurd hj (by omega)⟩
  · rintro f M hI
    simp only [mJ7_fill_207_5, show ((100 : Int32) ≤ nI 100) = True from eq_true (by decide), zbd_s, zbv_s, zgd_t, Bool.and_true, Bool.true_and, Bool.and_self, if_true, if_false, e_01, eq_self, Bool.false_eq_true]
    exact ⟨M, rfl, hI⟩
  · rintro f k M _ hk ⟨h1, h2, h3⟩ ih
    simp only [mJ7_fill_207_5, show ((100 : Int32) ≤ nI k) = False from eq_false (by rw [show (100 : Int32) = nI 100 from rfl, eI_le (by omega) (by omega)]; omega), ezin_nI (show k < 100 by omega) (show 100 < 2 ^ 31 by decide), ex_nI (show k < 2 ^ 31 by omega), ep1, zbd_s, zbv_s, zgd_t, Bool.and_true, Bool.true_and, Bool.and_self, if_true, if_false, e_01, eq_self, Bool.false_eq_true]
    refine ih _ ⟨eF_cs h1 rfl, h2, fun j hj => ?_⟩
    have := h3 j
    simp only [cg_cs]; grind
theorem lt0_n {a : Nat} (h : a < 2 ^ 31) : (nI a < 0) = False := by
  rw [show (0 : Int32) = nI 0 from rfl, eI_lt h (by decide)]; exact eq_false (by omega)
theorem lower_c {a b : Nat} (ha : a < 10) (hb : b < 10) (v : Int32) (M : cM) : m1_lower (nI a) (nI b) v M = some (cs M 207 0 (10 * a + b) (if cg M 207 0 (10 * a + b) ≤ v then cg M 207 0 (10 * a + b) else v)) := by
  unfold m1_lower
  rw [e10, eI_add]
  simp only [lt0_n (show 10 * a + b < 2 ^ 31 by omega), show (nI (10 * a + b) < (100 : Int32)) = True from by rw [show (100 : Int32) = nI 100 from rfl, eI_lt (by omega) (by omega)]; exact eq_true (by omega), ezin_nI (show 10 * a + b < 100 by omega) (show 100 < 2 ^ 31 by decide), ex_nI (show 10 * a + b < 2 ^ 31 by omega), min_c, zbd_s, zbv_s, zgd_t, Bool.and_true, Bool.true_and, Bool.and_self, if_true, if_false, e_01, eq_self, Bool.false_eq_true]
theorem at_c {a b : Nat} (ha : a < 10) (hb : b < 10) (M : cM) : m1_aheadAt (nI a) (nI b) M = some (cg M 207 0 (10 * a + b), M) := by
  unfold m1_aheadAt
  rw [e10, eI_add]
  simp only [lt0_n (show 10 * a + b < 2 ^ 31 by omega), show ((100 : Int32) ≤ nI (10 * a + b)) = False from eq_false (by rw [show (100 : Int32) = nI 100 from rfl, eI_le (by omega) (by omega)]; omega), ezin_nI (show 10 * a + b < 100 by omega) (show 100 < 2 ^ 31 by decide), ex_nI (show 10 * a + b < 2 ^ 31 by omega), zbd_s, zbv_s, zgd_t, Bool.and_true, Bool.true_and, Bool.and_self, if_true, if_false, e_01, eq_self, Bool.false_eq_true]
def eOk (M0 M : cM) : Prop := eF [207] M0 M ∧ M.2 = M0.2
/-- one row over o -/
theorem goOver_c {m o a : Nat} {D : Nat → Int32} {M0 M : cM} (hm : m ≤ 10) (h0 : cg M0 3 0 4 = nI m) (ho : o < m) (ha : a < m) (hz : D (10 * o + o) = 0) (h9 : ∀ j, D j ≤ 9999) (hf : eOk M0 M) (h : eHm m (eHx D (eHp D o) (10 * a)) (fun j => cg M 207 0 j)) : ∃ M', m1_goOver (nI a) (nI o) M = some M' ∧ eOk M0 M' ∧ eHm m (eHx D (eHp D o) (10 * (a + 1))) (fun j => cg M' 207 0 j) := by
  have rd : ∀ p a b, (a = o ∨ b = o) → b < 10 → eHx D (eHp D o) p (10 * a + b) = D (10 * a + b) := by
    intro p a b hab hb
    unfold eHx
    split
    · rcases hab with rfl | rfl
      · exact eHp_row hb hz
      · exact eHp_col hb hz
    · rfl
  have nx9 : ∀ x : Int32, x ≤ 9999 → ((x = 9999) = (¬ x < 9999)) := by
    intro x hx
    refine propext ⟨fun h => by rw [h]; decide, fun h => Int32.le_antisymm hx (Int32.not_lt.mp h)⟩
  have row_end : ∀ M', eHm m (eHx D (eHp D o) (10 * a + m)) (fun j => cg M' 207 0 j) → eHm m (eHx D (eHp D o) (10 * (a + 1))) (fun j => cg M' 207 0 j) := by
    intro M' h a' b' ha' hb'
    rw [h a' b' ha' hb']
    unfold eHx
    by_cases hl : 10 * a' + b' < 10 * a + m
    · rw [if_pos hl, if_pos (by omega)]
    · rw [if_neg hl, if_neg (by omega)]
  have e1 : cg M 207 0 (10 * a + o) = D (10 * a + o) := by rw [← rd (10 * a) a o (.inr rfl) (by omega)]; exact h a o ha ho
  unfold m1_goOver
  rw [at_c (by omega) (by omega), zbd_s, e1]
  by_cases h1 : D (10 * a + o) = 9999
  · rw [if_pos h1]
    refine ⟨M, rfl, hf, fun a' b' ha' hb' => ?_⟩
    rw [h a' b' ha' hb']
    unfold eHx
    by_cases hl : 10 * a' + b' < 10 * a
    · rw [if_pos hl, if_pos (by omega)]
    · rw [if_neg hl]
      by_cases hl2 : 10 * a' + b' < 10 * (a + 1)
      · have : a' = a := by omega
        subst this
        rw [if_pos hl2, eHp_at D o (by omega), if_neg]
        rintro ⟨hh, -⟩
        rw [h1] at hh; exact absurd hh (by decide)
      · rw [if_neg hl2]
  · rw [if_neg h1]
    have h1' : D (10 * a + o) < 9999 := by
      rw [nx9 _ (h9 _)] at h1; exact Classical.not_not.mp h1
    refine eloop (σ := cM) (fun f k M => ∃ M', m1_goOver_18 f (nI a) (nI o) (D (10 * a + o)) (nI k) M = some M' ∧ eOk M0 M' ∧ eHm m (eHx D (eHp D o) (10 * (a + 1))) (fun j => cg M' 207 0 j)) (fun k M => eOk M0 M ∧ eHm m (eHx D (eHp D o) (10 * a + k)) (fun j => cg M 207 0 j)) (m := m) (k0 := 0) (by omega) ?_ ?_ (zfu_gt (by omega)) ⟨hf, h⟩
    · rintro f M ⟨i1, i2⟩
      refine ⟨M, ?_, i1, row_end M i2⟩
      rw [m1_goOver_18, i1.1 3 0 4 rfl, h0, if_pos (by rw [eI_le (by omega) (by omega)]; omega)]
    · rintro f k M hk0 hk ⟨i1, i2⟩ ih
      have e2 : cg M 207 0 (10 * o + k) = D (10 * o + k) := by rw [← rd (10 * a + k) o k (.inl rfl) (by omega)]; exact i2 o k ho hk
      have e3 : cg M 207 0 (10 * a + k) = D (10 * a + k) := by
        have := i2 a k ha hk
        dsimp only at this
        rw [this]; unfold eHx; rw [if_neg (by omega)]
      rw [m1_goOver_18]
      simp only [i1.1 3 0 4 rfl, h0, eI_le (show m < 2 ^ 31 by omega) (show k < 2 ^ 31 by omega), show (m ≤ k) = False from eq_false (by omega), at_c (show o < 10 by omega) (show k < 10 by omega), e2, nx9 _ (h9 (10 * o + k)), lower_c (show a < 10 by omega) (show k < 10 by omega), e3, m1_goOver_58, ep1, zbd_s, zbv_s, zgd_t, Bool.and_true, Bool.true_and, Bool.and_self, if_true, if_false, e_01, eq_self, Bool.false_eq_true]
      by_cases h2 : D (10 * o + k) < 9999
      · simp only [h2, not_true_eq_false, if_false]
        refine ih _ ⟨⟨eF_cs i1.1 rfl, i1.2⟩, fun a' b' ha' hb' => ?_⟩
        dsimp only
        rw [cg_cs]
        by_cases hj : 10 * a' + b' = 10 * a + k
        · rw [if_pos ⟨rfl, rfl, hj⟩, hj]
          have hx : eHx D (eHp D o) (10 * a + (k + 1)) (10 * a + k) = eHp D o (10 * a + k) := by unfold eHx; rw [if_pos (by omega)]
          rw [hx, eHp_at D o (show k < 10 by omega), if_pos (And.intro h1' h2)]
        · rw [if_neg (fun h => hj h.2.2)]
          have := i2 a' b' ha' hb'
          dsimp only at this
          rw [this]
          unfold eHx
          by_cases hl : 10 * a' + b' < 10 * a + k
          · rw [if_pos hl, if_pos (by omega)]
          · rw [if_neg hl, if_neg (by omega)]
      · simp only [h2, not_false_eq_true, if_true]
        refine ih _ ⟨i1, fun a' b' ha' hb' => ?_⟩
        have := i2 a' b' ha' hb'
        dsimp only at this ⊢
        rw [this]
        unfold eHx
        by_cases hj : 10 * a' + b' = 10 * a + k
        · rw [if_neg (by omega), if_pos (by omega), hj, eHp_at D o (show k < 10 by omega), if_neg (fun h => h2 h.2)]
        · by_cases hl : 10 * a' + b' < 10 * a + k
          · rw [if_pos hl, if_pos (by omega)]
          · rw [if_neg hl, if_neg (by omega)]
theorem loop_c {m : Nat} {D : Nat → Int32} {M : cM} (hm : m ≤ 10) (h0 : cg M 3 0 4 = nI m) (h : eHm m D (fun j => cg M 207 0 j)) : ∃ r, m1_hasLoopBelowZero M = some (r, M) ∧ (r = 0 ∧ (∀ i, i < m → 0 ≤ D (10 * i + i)) ∨ r = 1 ∧ ∃ i, i < m ∧ ¬ 0 ≤ D (10 * i + i)) := by
  unfold m1_hasLoopBelowZero
  refine eloop (σ := Unit) (fun f k _ => ∃ r, m1_hasLoopBelowZero_2 f (nI k) M = some (r, M) ∧ (r = 0 ∧ (∀ i, i < m → 0 ≤ D (10 * i + i)) ∨ r = 1 ∧ ∃ i, i < m ∧ ¬ 0 ≤ D (10 * i + i))) (fun k _ => ∀ i, i < k → 0 ≤ D (10 * i + i)) (s := ()) (m := m) (k0 := 0) (by omega) ?_ ?_ (zfu_gt (by omega)) (fun i hi => absurd hi (by omega))
  · rintro f - hI
    refine ⟨0, ?_, .inl ⟨rfl, hI⟩⟩
    rw [m1_hasLoopBelowZero_2, h0, if_pos (by rw [eI_le (by omega) (by omega)]; omega)]
  · rintro f k - hk0 hk hI ih
    have e := h k k hk hk
    dsimp only at e
    rw [m1_hasLoopBelowZero_2]
    simp only [h0, eI_le (show m < 2 ^ 31 by omega) (show k < 2 ^ 31 by omega), show (m ≤ k) = False from eq_false (by omega), at_c (show k < 10 by omega) (show k < 10 by omega), e, ep1, zbd_s, zbv_s, zgd_t, Bool.and_true, Bool.true_and, Bool.and_self, if_true, if_false, e_01, eq_self, Bool.false_eq_true]
    by_cases hd : 0 ≤ D (10 * k + k)
    · simp only [hd, if_true]
      refine ih () (fun i hi => ?_)
      by_cases hik : i = k
      · rw [hik]; exact hd
      · exact hI i (by omega)
    · simp only [hd, if_false]
      exact ⟨1, rfl, .inr ⟨rfl, k, hk, hd⟩⟩
/-- the facts of the class are the reference's -/
def eFc (F : Nat) (M : cM) (N : rM) : Prop := cg M 1 0 6 = nI F ∧ rg N 12 0 51 = nI F ∧ ∀ i : Nat, i < F → cg M 201 0 i = rg N 1352 0 i ∧ cg M 202 0 i = rg N 1353 0 i ∧ cg M 203 0 i = rg N 1354 0 i ∧ cg M 204 0 i = rg N 1355 0 i ∧ cg M 205 0 i = rg N 1356 0 i
/-- what both say of a set -/
def eCan (m F : Nat) (N : rM) (s : Nat → Bool) (r : Int32) (g : Nat → Int32) : Prop := (r = 1 ∧ eFs N s F m m ∧ eHm m (eHd N s F m) g) ∨ (r = 0 ∧ ¬ eFs N s F m m)
theorem can_c {m F sn : Nat} {MC : cM} {MR : rM} (hm : m ≤ 10) (hm1 : 0 < m) (hF : F ≤ 20) (h0 : cg MC 3 0 4 = nI m) (hfc : eFc F MC MR) (hfk : eFk m F MR) (hs : sn < 1024) : ∃ r M', m1_canBeWithout (nI sn) MC = some (r, M') ∧ eOk MC M' ∧ eCan m F MR (fun j => sn.testBit j) r (fun j => cg M' 207 0 j) := by
  obtain ⟨f1, f2, f3⟩ := hfc
  obtain ⟨s, hsd⟩ : ∃ s : Nat → Bool, s = fun j => sn.testBit j := ⟨_, rfl⟩
  rw [← hsd]
  have hsb : ∀ j, eb (nI sn) j = s j := fun j => by rw [hsd]; exact eb_nI sn j (by omega)
  obtain ⟨M1, a1, a2, a3, a4⟩ := fill207 9999 MC
  unfold m1_canBeWithout
  rw [a1, zbv_s]
  -- ways over o, and on
  have over : ∀ o f M, o ≤ m → m - o < f → eOk MC M → eFs MR s F m o → eHm m (eHd MR s F o) (fun j => cg M 207 0 j) → ∃ r M', m1_canBeWithout_122 f (nI o) M = some (r, M') ∧ eOk MC M' ∧ eCan m F MR s r (fun j => cg M' 207 0 j) := by
    intro o f M ho hf i1 i2 i3
    refine eloop (σ := cM) (fun f o M => ∃ r M', m1_canBeWithout_122 f (nI o) M = some (r, M') ∧ eOk MC M' ∧ eCan m F MR s r (fun j => cg M' 207 0 j)) (fun o M => eOk MC M ∧ eFs MR s F m o ∧ eHm m (eHd MR s F o) (fun j => cg M 207 0 j)) (m := m) (k0 := o) ho ?_ ?_ hf ⟨i1, i2, i3⟩
    · rintro f M ⟨i1, i2, i3⟩
      refine ⟨1, M, ?_, i1, .inl ⟨rfl, i2, i3⟩⟩
      rw [m1_canBeWithout_122, i1.1 3 0 4 rfl, h0, if_pos (by rw [eI_le (by omega) (by omega)]; omega)]
    · rintro f o M ho0 ho ⟨i1, i2, i3⟩ ih
      rw [m1_canBeWithout_122, i1.1 3 0 4 rfl, h0, if_neg (by rw [eI_le (by omega) (by omega)]; omega)]
      have hz := eFs_0 hm hfk i2 ho
      refine eloop (σ := cM) (fun f' a M => ∃ r M', m1_canBeWithout_135 (m1_canBeWithout_122 f) f' (nI o) (nI a) M = some (r, M') ∧ eOk MC M' ∧ eCan m F MR s r (fun j => cg M' 207 0 j)) (fun a M => eOk MC M ∧ eHm m (eHx (eHd MR s F o) (eHp (eHd MR s F o) o) (10 * a)) (fun j => cg M 207 0 j)) (m := m) (k0 := 0) (by omega) ?_ ?_ (zfu_gt (by omega)) ⟨i1, fun a b ha hb => by
        rw [i3 a b ha hb]; unfold eHx; rw [if_neg (by omega)]⟩
      · rintro f' M ⟨j1, j2⟩
        have j3 : eHm m (eHd MR s F (o + 1)) (fun j => cg M 207 0 j) := fun a b ha hb => by
          rw [j2 a b ha hb]; unfold eHx; rw [if_pos (by omega), eHd_s]
        have e34 : cg M 3 0 4 = nI m := by rw [j1.1 3 0 4 rfl, h0]
        obtain ⟨r, l1, l2⟩ := loop_c hm e34 j3
        rw [m1_canBeWithout_135, e34, if_pos (by rw [eI_le (by omega) (by omega)]; omega), l1, zbd_s]
        rcases l2 with ⟨l2, l3⟩ | ⟨l2, i, hi, l3⟩
        · rw [if_pos l2, ep1]
          refine ih M ⟨j1, fun o' ho' i hi => ?_, j3⟩
          by_cases he : o' = o + 1
          · rw [he]; exact l3 i hi
          · exact i2 o' (by omega) i hi
        · rw [if_neg (by rw [l2]; decide)]
          exact ⟨0, M, rfl, j1, .inr ⟨rfl, fun h => l3 (h (o + 1) (by omega) i hi)⟩⟩
      · rintro f' a M ha0 ha ⟨j1, j2⟩ ih2
        obtain ⟨M', k1, k2, k3⟩ := goOver_c (M0 := MC) (a := a) (o := o) hm h0 ho ha hz (eHd_9 s hfk o (by omega)) j1 j2
        rw [m1_canBeWithout_135, j1.1 3 0 4 rfl, h0, if_neg (by rw [eI_le (by omega) (by omega)]; omega), k1, zbv_s, ep1]
        exact ih2 M' ⟨k2, k3⟩
  -- the facts
  have facts : ∀ M, eOk MC M → eHm m eHi (fun j => cg M 207 0 j) → ∃ r M', m1_canBeWithout_38 zfu (nI sn) 0 M = some (r, M') ∧ eOk MC M' ∧ eCan m F MR s r (fun j => cg M' 207 0 j) := by
    intro M i1 i2
    refine eloop (σ := cM) (fun f i M => ∃ r M', m1_canBeWithout_38 f (nI sn) (nI i) M = some (r, M') ∧ eOk MC M' ∧ eCan m F MR s r (fun j => cg M' 207 0 j)) (fun i M => eOk MC M ∧ eHm m (eHf MR s i) (fun j => cg M 207 0 j)) (m := F) (k0 := 0) (by omega) ?_ ?_ (zfu_gt (by omega)) ⟨i1, i2⟩
    · rintro f M ⟨i1, i2⟩
      rw [m1_canBeWithout_38, i1.1 1 0 6 rfl, f1, if_pos (by rw [eI_le (by omega) (by omega)]; omega)]
      unfold m1_canBeWithout_120
      refine over 0 zfu M (by omega) (zfu_gt (by omega)) i1 (fun o' ho' i hi => ?_) i2
      have : o' = 0 := by omega
      subst this
      show 0 ≤ eHf MR s F (10 * i + i)
      rw [eHf_dg s hm hfk (by omega)]; exact Int32.le_refl 0
    · rintro f i M hi0 hi ⟨i1, i2⟩ ih
      obtain ⟨c1, c2, c3, c4, c5⟩ := f3 i hi
      obtain ⟨⟨p, a, b, p1, p2, p3, p4, p5, p6, p7⟩, -⟩ := hfk i hi
      have g1 : ∀ M', eOk MC M' → cg M' 201 0 i = nI p ∧ cg M' 202 0 i = nI a ∧ cg M' 203 0 i = nI b ∧ cg M' 204 0 i = rg MR 1355 0 i ∧ cg M' 205 0 i = rg MR 1356 0 i := fun M' h => by
        rw [h.1 201 0 i rfl, h.1 202 0 i rfl, h.1 203 0 i rfl, h.1 204 0 i rfl, h.1 205 0 i rfl, c1, c2, c3, c4, c5, p5, p6, p7]
        exact ⟨rfl, rfl, rfl, rfl, rfl⟩
      obtain ⟨d1, d2, d3, d4, d5⟩ := g1 M i1
      rw [m1_canBeWithout_38, i1.1 1 0 6 rfl, f1, if_neg (by rw [eI_le (by omega) (by omega)]; omega)]
      simp only [show ((20 : Int32) ≤ nI i) = False from eq_false (by rw [show (20 : Int32) = nI 20 from rfl, eI_le (by omega) (by omega)]; omega), ezin_nI (show i < 20 by omega) (show 20 < 2 ^ 31 by decide), ex_nI (show i < 2 ^ 31 by omega), d1, zshr1_1 (show p < 32 by omega), hsb, m1_canBeWithout_114, ep1, zbd_s, zbv_s, zgd_t, Bool.and_true, Bool.true_and, Bool.and_self, if_true, if_false, e_01, eq_self, Bool.false_eq_true]
      by_cases hsp : s p = true
      · rw [if_pos hsp]
        refine ih M ⟨i1, ?_⟩
        rw [eHf_s, p5, ex_nI (by omega), if_pos hsp]; exact i2
      · rw [if_neg hsp]
        simp only [d2, d3, d5, lower_c (show a < 10 by omega) (show b < 10 by omega), zbd_s, zbv_s, zgd_t, Bool.and_true, Bool.true_and, Bool.and_self, if_true, if_false, e_01, eq_self, Bool.false_eq_true]
        obtain ⟨M2, hM2⟩ : ∃ X, X = cs M 207 0 (10 * a + b) (if cg M 207 0 (10 * a + b) ≤ rg MR 1356 0 i then cg M 207 0 (10 * a + b) else rg MR 1356 0 i) := ⟨_, rfl⟩
        rw [← hM2]
        have i1' : eOk MC M2 := by rw [hM2]; exact ⟨eF_cs i1.1 rfl, i1.2⟩
        obtain ⟨d1', d2', d3', d4', d5'⟩ := g1 M2 i1'
        simp only [d2', d3', d4', lower_c (show b < 10 by omega) (show a < 10 by omega), zbd_s, zbv_s, zgd_t, Bool.and_true, Bool.true_and, Bool.and_self, if_true, if_false, e_01, eq_self, Bool.false_eq_true]
        refine ih _ ⟨⟨eF_cs i1'.1 rfl, i1'.2⟩, ?_⟩
        rw [eHf_s, p5, p6, p7, ex_nI (by omega), ex_nI (by omega), ex_nI (by omega), if_neg hsp]
        refine eHm_lw (g := fun j => cg M2 207 0 j) (eHm_lw (g := fun j => cg M 207 0 j) i2 hm p2 p3 ?_ (fun j hj => ?_)) hm p3 p2 ?_ (fun j hj => ?_)
        · rw [hM2, cg_cs, if_pos ⟨rfl, rfl, rfl⟩]
        · rw [hM2, cg_cs, if_neg (fun h => hj h.2.2)]
        · rw [cg_cs, if_pos ⟨rfl, rfl, rfl⟩]
        · rw [cg_cs, if_neg (fun h => hj h.2.2)]
  refine eloop (σ := cM) (fun f k M => ∃ r M', m1_canBeWithout_12 f (nI sn) (nI k) M = some (r, M') ∧ eOk MC M' ∧ eCan m F MR s r (fun j => cg M' 207 0 j)) (fun k M => eOk MC M ∧ ∀ j, j < 100 → cg M 207 0 j = if j / 10 = j % 10 ∧ j / 10 < k then 0 else 9999) (m := m) (k0 := 0) (by omega) ?_ ?_ (zfu_gt (by omega)) ⟨⟨a2, a3⟩, fun j hj => by rw [a4 j hj, if_neg (by omega)]⟩
  · rintro f M ⟨i1, i2⟩
    rw [m1_canBeWithout_12, i1.1 3 0 4 rfl, h0, if_pos (by rw [eI_le (by omega) (by omega)]; omega)]
    refine facts M i1 (fun a b ha hb => ?_)
    dsimp only
    rw [i2 _ (by omega)]
    unfold eHi
    by_cases hab : (10 * a + b) / 10 = (10 * a + b) % 10
    · rw [if_pos hab, if_pos ⟨hab, by omega⟩]
    · rw [if_neg hab, if_neg (fun h => hab h.1)]
  · rintro f k M hk0 hk ⟨i1, i2⟩ ih
    rw [m1_canBeWithout_12, i1.1 3 0 4 rfl, h0, if_neg (by rw [eI_le (by omega) (by omega)]; omega), lower_c (by omega) (by omega), zbv_s, ep1]
    refine ih _ ⟨⟨eF_cs i1.1 rfl, i1.2⟩, fun j hj => ?_⟩
    rw [cg_cs]
    by_cases hjk : j = 10 * k + k
    · rw [if_pos ⟨rfl, rfl, hjk⟩, i2 _ (by omega), if_neg (show ¬ ((10 * k + k) / 10 = (10 * k + k) % 10 ∧ (10 * k + k) / 10 < k) by omega), if_neg (show ¬ ((9999 : Int32) ≤ 0) by decide), if_pos (by omega)]
    · rw [if_neg (fun h => hjk h.2.2), i2 j hj]
      by_cases hc : j / 10 = j % 10 ∧ j / 10 < k
      · rw [if_pos hc, if_pos (by omega)]
      · rw [if_neg hc, if_neg (by omega)]
