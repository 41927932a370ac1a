/-! the reference's ways -/
theorem less_e {a b : Nat} (ha : a < 10) (hb : b < 10) (v : Int32) (N : rM) : m12_lessen (nI a) (nI b) v N = some (rs N 1357 0 (10 * a + b) (if rg N 1357 0 (10 * a + b) ≤ v then rg N 1357 0 (10 * a + b) else v)) := by
  unfold m12_lessen m12_lessen_40
  rw [e10, eI_add]
  simp only [ezin_nI (show 10 * a + b < 100 by omega) (show 100 < 2 ^ 31 by decide), ex_nI (show 10 * a + b < 2 ^ 31 by omega), zbd_s, zbv_s, zgd_t, Bool.and_true, Bool.true_and, Bool.and_self, if_true, if_false, e_01, eq_self, Bool.false_eq_true]
  split <;> rfl
theorem less_le {a b : Nat} (ha : a < 10) (hb : b < 10) (v : Int32) (N : rM) : ∃ N', m12_lessen (nI a) (nI b) v N = some N' ∧ eH [1357] N N' ∧ ∀ j, rg N' 1357 0 j ≤ rg N 1357 0 j := by
  refine ⟨_, less_e ha hb v N, (by repeat (first | exact eH_refl | refine eH_rs ?_ rfl | refine eH_rsl ?_)), fun j => ?_⟩
  rw [rg_rs]
  by_cases hj : j = 10 * a + b
  · rw [if_pos ⟨rfl, rfl, hj⟩, hj]
    split
    · exact Int32.le_refl _
    · rename_i h
      exact Int32.le_of_lt (Int32.not_le.mp h)
  · rw [if_neg (fun h => hj h.2.2)]; exact Int32.le_refl _
/-- some way home is below 0 -/
def eNg (m : Nat) (N : rM) : Prop := ∃ i, i < m ∧ rg N 1357 0 (10 * i + i) < 0
theorem eNg_le {m : Nat} {N N' : rM} (h : eNg m N) (hl : ∀ j, rg N' 1357 0 j ≤ rg N 1357 0 j) : eNg m N' := by
  obtain ⟨i, hi, h1⟩ := h
  have := hl (10 * i + i)
  exact ⟨i, hi, by lia⟩
/-- once below 0, always -/
theorem over_ng {m o : Nat} {N0 N : rM} {P : Option (Int32 × rM) → Prop} (k114 : Int32 → rM → Option (Int32 × rM)) (hm : m ≤ 10) (h0 : rg N0 12 0 0 = nI m) (ho : o < m) (i1 : eH [1357] N0 N) (i2 : eNg m N) (hk : ∀ N', eH [1357] N0 N' → eNg m N' → P (k114 (nI (o + 1)) N')) : P (m12_canBe_124 k114 zfu (nI o) 0 N) := by
  refine eloop (σ := rM) (fun f a N => P (m12_canBe_124 k114 f (nI o) (nI a) N)) (fun a N => eH [1357] N0 N ∧ eNg m N) (m := m) (k0 := 0) (by omega) ?_ ?_ (zfu_gt (by omega)) ⟨i1, i2⟩
  · rintro f N ⟨i1, i2⟩
    rw [m12_canBe_124, i1 12 0 0 rfl, h0, if_pos (by rw [eI_le (by omega) (by omega)]; omega), ep1]
    exact hk N i1 i2
  · rintro f a N ha0 ha ⟨i1, i2⟩ ih
    rw [m12_canBe_124, i1 12 0 0 rfl, h0, if_neg (by rw [eI_le (by omega) (by omega)]; omega)]
    refine eloop (σ := rM) (fun f' b N => P (m12_canBe_135 k114 (m12_canBe_124 k114 f) f' (nI o) (nI a) (nI b) N)) (fun b N => eH [1357] N0 N ∧ eNg m N) (m := m) (k0 := 0) (by omega) ?_ ?_ (zfu_gt (by omega)) ⟨i1, i2⟩
    · rintro f' N ⟨i1, i2⟩
      rw [m12_canBe_135, i1 12 0 0 rfl, h0, if_pos (by rw [eI_le (by omega) (by omega)]; omega), ep1]
      exact ih N ⟨i1, i2⟩
    · rintro f' b N hb0 hb ⟨i1, i2⟩ ih2
      obtain ⟨N', l1, l2, l3⟩ := less_le (a := a) (b := b) (by omega) (by omega) (rg N 1357 0 (10 * a + o) + rg N 1357 0 (10 * o + b)) N
      rw [m12_canBe_135]
      simp only [i1 12 0 0 rfl, h0, eI_le (show m < 2 ^ 31 by omega) (show b < 2 ^ 31 by omega), show (m ≤ b) = False from eq_false (by omega), e10, eI_add, ezin_nI (show 10 * a + o < 100 by omega) (show 100 < 2 ^ 31 by decide), ex_nI (show 10 * a + o < 2 ^ 31 by omega), ezin_nI (show 10 * o + b < 100 by omega) (show 100 < 2 ^ 31 by decide), ex_nI (show 10 * o + b < 2 ^ 31 by omega), l1, m12_canBe_210, ep1, zbd_s, zbv_s, zgd_t, Bool.and_true, Bool.true_and, Bool.and_self, if_true, if_false, e_01, eq_self, Bool.false_eq_true]
      split
      · exact ih2 N ⟨i1, i2⟩
      · split
        · exact ih2 N ⟨i1, i2⟩
        · exact ih2 N' ⟨eH_trans i1 l2, eNg_le i2 l3⟩
/-- all rows over o -/
theorem over_ok {m o : Nat} {D : Nat → Int32} {N0 N : rM} {P : Option (Int32 × rM) → Prop} (k114 : Int32 → rM → Option (Int32 × rM)) (hm : m ≤ 10) (h0 : rg N0 12 0 0 = nI m) (ho : o < m) (hz : D (10 * o + o) = 0) (i1 : eH [1357] N0 N) (i2 : eHm m D (fun j => rg N 1357 0 j)) (hk : ∀ N', eH [1357] N0 N' → eHm m (eHp D o) (fun j => rg N' 1357 0 j) → P (k114 (nI (o + 1)) N')) : P (m12_canBe_124 k114 zfu (nI o) 0 N) := by
  have rd : ∀ p a b, (a = o ∨ b = o) → b < 10 → eHx D (eHp D o) p (10 * a + b) = D (10 * a + b) := by
    intro p a b hab hb
    unfold eHx
    split
    · rcases hab with rfl | rfl
      · exact eHp_row hb hz
      · exact eHp_col hb hz
    · rfl
  have n9 : ∀ x : Int32, ((9999 : Int32) ≤ x) = (¬ x < 9999) := fun x => propext Int32.not_lt.symm
  refine eloop (σ := rM) (fun f a N => P (m12_canBe_124 k114 f (nI o) (nI a) N)) (fun a N => eH [1357] N0 N ∧ eHm m (eHx D (eHp D o) (10 * a)) (fun j => rg N 1357 0 j)) (m := m) (k0 := 0) (by omega) ?_ ?_ (zfu_gt (by omega)) ⟨i1, fun a b ha hb => by
    rw [i2 a b ha hb]; unfold eHx; rw [if_neg (by omega)]⟩
  · rintro f N ⟨i1, i2⟩
    rw [m12_canBe_124, i1 12 0 0 rfl, h0, if_pos (by rw [eI_le (by omega) (by omega)]; omega), ep1]
    refine hk N i1 (fun a b ha hb => ?_)
    rw [i2 a b ha hb]; unfold eHx; rw [if_pos (by omega)]
  · rintro f a N ha0 ha ⟨i1, i2⟩ ih
    rw [m12_canBe_124, i1 12 0 0 rfl, h0, if_neg (by rw [eI_le (by omega) (by omega)]; omega)]
    refine eloop (σ := rM) (fun f' b N => P (m12_canBe_135 k114 (m12_canBe_124 k114 f) f' (nI o) (nI a) (nI b) N)) (fun b N => eH [1357] N0 N ∧ eHm m (eHx D (eHp D o) (10 * a + b)) (fun j => rg N 1357 0 j)) (m := m) (k0 := 0) (by omega) ?_ ?_ (zfu_gt (by omega)) ⟨i1, i2⟩
    · rintro f' N ⟨i1, i2⟩
      rw [m12_canBe_135, i1 12 0 0 rfl, h0, if_pos (by rw [eI_le (by omega) (by omega)]; omega), ep1]
      refine ih N ⟨i1, fun a' b' ha' hb' => ?_⟩
      rw [i2 a' b' ha' hb']
      unfold eHx
      by_cases hl : 10 * a' + b' < 10 * a + m
      · rw [if_pos hl, if_pos (by omega)]
      · rw [if_neg hl, if_neg (by omega)]
    · rintro f' k N hk0 hk' ⟨i1, i2⟩ ih2
      have e1 : rg N 1357 0 (10 * a + o) = D (10 * a + o) := by rw [← rd (10 * a + k) a o (.inr rfl) (by omega)]; exact i2 a o ha ho
      have e2 : rg N 1357 0 (10 * o + k) = D (10 * o + k) := by rw [← rd (10 * a + k) o k (.inl rfl) (by omega)]; exact i2 o k ho hk'
      have e3 : rg N 1357 0 (10 * a + k) = D (10 * a + k) := by
        have := i2 a k ha hk'
        dsimp only at this
        rw [this]; unfold eHx; rw [if_neg (by omega)]
      have same : ¬ (D (10 * a + o) < 9999 ∧ D (10 * o + k) < 9999) → P (m12_canBe_135 k114 (m12_canBe_124 k114 f) f' (nI o) (nI a) (nI (k + 1)) N) := by
        intro hn
        refine ih2 N ⟨i1, fun a' b' ha' hb' => ?_⟩
        have := i2 a' b' ha' hb'
        dsimp only at this ⊢
        rw [this]
        unfold eHx
        by_cases hj : 10 * a' + b' = 10 * a + k
        · rw [if_neg (by omega), if_pos (by omega), hj, eHp_at D o (show k < 10 by omega), if_neg hn]
        · by_cases hl : 10 * a' + b' < 10 * a + k
          · rw [if_pos hl, if_pos (by omega)]
          · rw [if_neg hl, if_neg (by omega)]
      rw [m12_canBe_135]
      simp only [i1 12 0 0 rfl, h0, eI_le (show m < 2 ^ 31 by omega) (show k < 2 ^ 31 by omega), show (m ≤ k) = False from eq_false (by omega), e10, eI_add, ezin_nI (show 10 * a + o < 100 by omega) (show 100 < 2 ^ 31 by decide), ex_nI (show 10 * a + o < 2 ^ 31 by omega), ezin_nI (show 10 * o + k < 100 by omega) (show 100 < 2 ^ 31 by decide), ex_nI (show 10 * o + k < 2 ^ 31 by omega), e1, e2, less_e (show a < 10 by omega) (show k < 10 by omega), e3, m12_canBe_210, n9, ep1, zbd_s, zbv_s, zgd_t, Bool.and_true, Bool.true_and, Bool.and_self, if_true, if_false, e_01, eq_self, Bool.false_eq_true]
      by_cases h1 : D (10 * a + o) < 9999
      · by_cases h2 : D (10 * o + k) < 9999
        · simp only [h1, h2, not_true_eq_false, if_false]
          refine ih2 _ ⟨eH_rs i1 rfl, fun a' b' ha' hb' => ?_⟩
          dsimp only
          rw [rg_rs]
          by_cases hj : 10 * a' + b' = 10 * a + k
          · rw [if_pos ⟨rfl, rfl, hj⟩, hj]
            have hx : eHx D (eHp D o) (10 * a + (k + 1)) (10 * a + k) = eHp D o (10 * a + k) := by unfold eHx; rw [if_pos (by omega)]
            rw [hx, eHp_at D o (show k < 10 by omega), if_pos (And.intro h1 h2)]
          · rw [if_neg (fun h => hj h.2.2)]
            have := i2 a' b' ha' hb'
            dsimp only at this
            rw [this]
            unfold eHx
            by_cases hl : 10 * a' + b' < 10 * a + k
            · rw [if_pos hl, if_pos (by omega)]
            · rw [if_neg hl, if_neg (by omega)]
        · simp only [h1, h2, not_true_eq_false, not_false_eq_true, if_true, if_false]
          exact same (fun h => h2 h.2)
      · simp only [h1, not_false_eq_true, if_true]
        exact same (fun h => h1 h.1)
theorem e11 (a : Nat) : (11 : Int32) * nI a = nI (10 * a + a) := by rw [show (11 : Int32) = nI 11 from rfl, eI_mul]; congr 1; omega
theorem home_e {m : Nat} {N : rM} (hm : m ≤ 10) (h0 : rg N 12 0 0 = nI m) : ∃ r, m12_canBe_232 zfu 1 0 N = some (r, N) ∧ (r = 1 ∧ (∀ i, i < m → 0 ≤ rg N 1357 0 (10 * i + i)) ∨ r = 0 ∧ eNg m N) := by
  have n10 : ((1 : Int32) = 0) = False := eq_false (by decide)
  refine eloop (σ := Int32) (fun f k x => ∃ r, m12_canBe_232 f x (nI k) N = some (r, N) ∧ (r = 1 ∧ (∀ i, i < m → 0 ≤ rg N 1357 0 (10 * i + i)) ∨ r = 0 ∧ eNg m N)) (fun k x => (x = 1 ∧ ∀ i, i < k → 0 ≤ rg N 1357 0 (10 * i + i)) ∨ (x = 0 ∧ eNg m N)) (m := m) (k0 := 0) (by omega) ?_ ?_ (zfu_gt (by omega)) (.inl ⟨rfl, fun i hi => absurd hi (by omega)⟩)
  · rintro f x hI
    refine ⟨x, ?_, hI⟩
    rw [m12_canBe_232, h0, if_pos (by rw [eI_le (by omega) (by omega)]; omega)]
    rcases hI with ⟨rfl, -⟩ | ⟨rfl, -⟩ <;> rfl
  · rintro f k x hk0 hk hI ih
    rw [m12_canBe_232]
    simp only [h0, eI_le (show m < 2 ^ 31 by omega) (show k < 2 ^ 31 by omega), show (m ≤ k) = False from eq_false (by omega), e11, ezin_nI (show 10 * k + k < 100 by omega) (show 100 < 2 ^ 31 by decide), ex_nI (show 10 * k + k < 2 ^ 31 by omega), m12_canBe_261, ep1, zbd_s, zbv_s, zgd_t, Bool.and_true, Bool.true_and, Bool.and_self, if_true, if_false, e_01, eq_self, Bool.false_eq_true]
    rcases hI with ⟨rfl, h1⟩ | ⟨rfl, h1⟩
    · simp only [n10, if_false]
      by_cases hd : rg N 1357 0 (10 * k + k) < 0
      · simp only [hd, if_true]
        exact ih 0 (.inr ⟨rfl, k, hk, hd⟩)
      · simp only [hd, if_false]
        refine ih 1 (.inl ⟨rfl, fun i hi => ?_⟩)
        by_cases hik : i = k
        · rw [hik]; exact Int32.not_lt.mp hd
        · exact h1 i (by omega)
    · simp only [if_true]
      exact ih 0 (.inr ⟨rfl, h1⟩)
theorem can_e {m F sn : Nat} {MR : rM} (hm : m ≤ 10) (hF : F ≤ 20) (h0 : rg MR 12 0 0 = nI m) (f2 : rg MR 12 0 51 = nI F) (hfk : eFk m F MR) (hs : sn < 1024) : ∃ r N', m12_canBe (nI sn) MR = some (r, N') ∧ eH [1357] MR N' ∧ eCan m F MR (fun j => sn.testBit j) r (fun j => rg N' 1357 0 j) := by
  obtain ⟨s, hsd⟩ : ∃ s : Nat → Bool, s = fun j => sn.testBit j := ⟨_, rfl⟩
  rw [← hsd]
  have hsb : ∀ j, eb (nI sn) j = s j := fun j => by rw [hsd]; exact eb_nI sn j (by omega)
  have n10 : ((1 : Int32) = 0) = False := eq_false (by decide)
  have over : ∀ N, eH [1357] MR N → eHm m (eHd MR s F 0) (fun j => rg N 1357 0 j) → ∃ r N', m12_canBe_114 zfu 0 N = some (r, N') ∧ eH [1357] MR N' ∧ eCan m F MR s r (fun j => rg N' 1357 0 j) := by
    intro N i1 i2
    refine eloop (σ := rM) (fun f o N => ∃ r N', m12_canBe_114 f (nI o) N = some (r, N') ∧ eH [1357] MR N' ∧ eCan m F MR s r (fun j => rg N' 1357 0 j)) (fun o N => eH [1357] MR N ∧ ((eFs MR s F m o ∧ eHm m (eHd MR s F o) (fun j => rg N 1357 0 j)) ∨ (¬ eFs MR s F m o ∧ eNg m N))) (m := m) (k0 := 0) (by omega) ?_ ?_ (zfu_gt (by omega)) ⟨i1, .inl ⟨fun o' ho' i hi => ?_, i2⟩⟩
    · rintro f N ⟨i1, i2⟩
      rw [m12_canBe_114, i1 12 0 0 rfl, h0, if_pos (by rw [eI_le (by omega) (by omega)]; omega)]
      obtain ⟨r, r1, r2⟩ := home_e (N := N) hm (by rw [i1 12 0 0 rfl, h0])
      refine ⟨r, N, r1, i1, ?_⟩
      rcases i2 with ⟨a1, a2⟩ | ⟨a1, a2⟩
      · rcases r2 with ⟨b1, b2⟩ | ⟨b1, i, hi, b2⟩
        · exact .inl ⟨b1, a1, a2⟩
        · exfalso
          have := a1 m (Nat.le_refl m) i hi
          rw [← a2 i i hi hi] at this
          exact absurd b2 (Int32.not_lt.mpr this)
      · rcases r2 with ⟨b1, b2⟩ | ⟨b1, b2⟩
        · exfalso
          obtain ⟨i, hi, a3⟩ := a2
          exact absurd a3 (Int32.not_lt.mpr (b2 i hi))
        · exact .inr ⟨b1, a1⟩
    · rintro f o N ho0 ho ⟨i1, i2⟩ ih
      rw [m12_canBe_114, i1 12 0 0 rfl, h0, if_neg (by rw [eI_le (by omega) (by omega)]; omega)]
      rcases i2 with ⟨a1, a2⟩ | ⟨a1, a2⟩
      · refine over_ok (P := fun x => ∃ r N', x = some (r, N') ∧ eH [1357] MR N' ∧ eCan m F MR s r (fun j => rg N' 1357 0 j)) (m12_canBe_114 f) hm h0 ho (eFs_0 hm hfk a1 ho) i1 a2 (fun N' k1 k2 => ih N' ⟨k1, ?_⟩)
        by_cases hd : ∀ i, i < m → 0 ≤ eHd MR s F (o + 1) (10 * i + i)
        · refine .inl ⟨fun o' ho' i hi => ?_, k2⟩
          by_cases he : o' = o + 1
          · rw [he]; exact hd i hi
          · exact a1 o' (by omega) i hi
        · refine .inr ⟨fun h => hd (fun i hi => h (o + 1) (Nat.le_refl _) i hi), ?_⟩
          rw [Classical.not_forall] at hd
          obtain ⟨i, hd⟩ := hd
          rw [Classical.not_imp] at hd
          refine ⟨i, hd.1, ?_⟩
          have := k2 i i hd.1 hd.1
          dsimp only at this
          rw [this]
          exact Int32.not_le.mp hd.2
      · refine over_ng (P := fun x => ∃ r N', x = some (r, N') ∧ eH [1357] MR N' ∧ eCan m F MR s r (fun j => rg N' 1357 0 j)) (m12_canBe_114 f) hm h0 ho i1 a2 (fun N' k1 k2 => ih N' ⟨k1, .inr ⟨fun h => a1 (fun o' ho' => h o' (by omega)), k2⟩⟩)
    · have : o' = 0 := by omega
      subst this
      show 0 ≤ eHf MR s F (10 * i + i)
      rw [eHf_dg s hm hfk (by omega)]; exact Int32.le_refl 0
  have facts : ∀ N, eH [1357] MR N → eHm m eHi (fun j => rg N 1357 0 j) → ∃ r N', m12_canBe_40 zfu (nI sn) 0 N = some (r, N') ∧ eH [1357] MR N' ∧ eCan m F MR s r (fun j => rg N' 1357 0 j) := by
    intro N i1 i2
    refine eloop (σ := rM) (fun f i N => ∃ r N', m12_canBe_40 f (nI sn) (nI i) N = some (r, N') ∧ eH [1357] MR N' ∧ eCan m F MR s r (fun j => rg N' 1357 0 j)) (fun i N => eH [1357] MR N ∧ eHm m (eHf MR s i) (fun j => rg N 1357 0 j)) (m := F) (k0 := 0) (by omega) ?_ ?_ (zfu_gt (by omega)) ⟨i1, i2⟩
    · rintro f N ⟨i1, i2⟩
      rw [m12_canBe_40, i1 12 0 51 rfl, f2, if_pos (by rw [eI_le (by omega) (by omega)]; omega)]
      exact over N i1 i2
    · rintro f i N hi0 hi ⟨i1, i2⟩ ih
      obtain ⟨⟨p, a, b, p1, p2, p3, p4, p5, p6, p7⟩, -⟩ := hfk i hi
      have g1 : ∀ N', eH [1357] MR N' → rg N' 1352 0 i = nI p ∧ rg N' 1353 0 i = nI a ∧ rg N' 1354 0 i = nI b ∧ rg N' 1355 0 i = rg MR 1355 0 i ∧ rg N' 1356 0 i = rg MR 1356 0 i := fun N' h => by
        rw [h 1352 0 i rfl, h 1353 0 i rfl, h 1354 0 i rfl, h 1355 0 i rfl, h 1356 0 i rfl, p5, p6, p7]
        exact ⟨rfl, rfl, rfl, rfl, rfl⟩
      obtain ⟨d1, d2, d3, d4, d5⟩ := g1 N i1
      rw [m12_canBe_40, i1 12 0 51 rfl, f2, if_neg (by rw [eI_le (by omega) (by omega)]; omega)]
      simp only [ezin_nI (show i < 20 by omega) (show 20 < 2 ^ 31 by decide), ex_nI (show i < 2 ^ 31 by omega), d1, isIn_y (show p < 32 by omega), hsb, m12_canBe_106, ep1, zbd_s, zbv_s, zgd_t, Bool.and_true, Bool.true_and, Bool.and_self, if_true, if_false, e_01, eq_self, Bool.false_eq_true]
      by_cases hsp : s p = true
      · simp only [hsp, n10, zbd_s, zbv_s, zgd_t, Bool.and_true, Bool.true_and, Bool.and_self, if_true, if_false, e_01, eq_self, Bool.false_eq_true]
        refine ih N ⟨i1, ?_⟩
        rw [eHf_s, p5, ex_nI (by omega), if_pos hsp]; exact i2
      · simp only [hsp, d2, d3, d5, less_e (show a < 10 by omega) (show b < 10 by omega), zbd_s, zbv_s, zgd_t, Bool.and_true, Bool.true_and, Bool.and_self, if_true, if_false, e_01, eq_self, Bool.false_eq_true]
        obtain ⟨N2, hN2⟩ : ∃ X, X = rs N 1357 0 (10 * a + b) (if rg N 1357 0 (10 * a + b) ≤ rg MR 1356 0 i then rg N 1357 0 (10 * a + b) else rg MR 1356 0 i) := ⟨_, rfl⟩
        rw [← hN2]
        have i1' : eH [1357] MR N2 := by rw [hN2]; exact eH_rs i1 rfl
        obtain ⟨d1', d2', d3', d4', d5'⟩ := g1 N2 i1'
        simp only [d2', d3', d4', less_e (show b < 10 by omega) (show a < 10 by omega), zbd_s, zbv_s, zgd_t, Bool.and_true, Bool.true_and, Bool.and_self, if_true, if_false, e_01, eq_self, Bool.false_eq_true]
        refine ih _ ⟨eH_rs i1' rfl, ?_⟩
        rw [eHf_s, p5, p6, p7, ex_nI (by omega), ex_nI (by omega), ex_nI (by omega), if_neg hsp]
        refine eHm_lw (g := fun j => rg N2 1357 0 j) (eHm_lw (g := fun j => rg N 1357 0 j) i2 hm p2 p3 ?_ (fun j hj => ?_)) hm p3 p2 ?_ (fun j hj => ?_)
        · rw [hN2, rg_rs, if_pos ⟨rfl, rfl, rfl⟩]
        · rw [hN2, rg_rs, if_neg (fun h => hj h.2.2)]
        · rw [rg_rs, if_pos ⟨rfl, rfl, rfl⟩]
        · rw [rg_rs, if_neg (fun h => hj h.2.2)]
  unfold m12_canBe
  refine eloop (σ := rM) (fun f k N => ∃ r N', m12_canBe_2 f (nI sn) (nI k) N = some (r, N') ∧ eH [1357] MR N' ∧ eCan m F MR s r (fun j => rg N' 1357 0 j)) (fun k N => eH [1357] MR N ∧ ∀ j, j < k → rg N 1357 0 j = eHi j) (m := 100) (k0 := 0) (by omega) ?_ ?_ (zfu_gt (by omega)) ⟨eH_refl, fun j hj => absurd hj (by omega)⟩
  · rintro f N ⟨i1, i2⟩
    rw [m12_canBe_2, if_pos (show (100 : Int32) ≤ nI 100 from by decide)]
    exact facts N i1 (fun a b ha hb => i2 _ (by omega))
  · rintro f k N hk0 hk ⟨i1, i2⟩ ih
    have d10 : nI k / (10 : Int32) = nI (k / 10) := by rw [show (10 : Int32) = nI 10 from rfl, eI_div (by omega) (by omega)]
    have r10 : zrem (nI k) (10 : Int32) = nI (k % 10) := by rw [show (10 : Int32) = nI 10 from rfl, zrem_nI (by omega) (by omega) (by omega)]
    rw [m12_canBe_2]
    simp only [show ((100 : Int32) ≤ nI k) = False from eq_false (by rw [show (100 : Int32) = nI 100 from rfl, eI_le (by omega) (by omega)]; omega), show znz 10 = true from rfl, d10, r10, eI_inj (show k / 10 < 2 ^ 31 by omega) (show k % 10 < 2 ^ 31 by omega), ezin_nI (show k < 100 by omega) (show 100 < 2 ^ 31 by decide), ex_nI (show k < 2 ^ 31 by omega), m12_canBe_31, ep1, zbd_s, zbv_s, zgd_t, Bool.and_true, Bool.true_and, Bool.and_self, if_true, if_false, e_01, eq_self, Bool.false_eq_true]
    by_cases hd : k / 10 = k % 10
    · simp only [hd, if_true]
      refine ih _ ⟨eH_rs i1 rfl, fun j hj => ?_⟩
      rw [rg_rs]
      by_cases hjk : j = k
      · rw [if_pos ⟨rfl, rfl, hjk⟩, hjk]; unfold eHi; rw [if_pos hd]
      · rw [if_neg (fun h => hjk h.2.2)]; exact i2 j (by omega)
    · simp only [hd, if_false]
      refine ih _ ⟨eH_rs i1 rfl, fun j hj => ?_⟩
      rw [rg_rs]
      by_cases hjk : j = k
      · rw [if_pos ⟨rfl, rfl, hjk⟩, hjk]; unfold eHi; rw [if_neg hd]
      · rw [if_neg (fun h => hjk h.2.2)]; exact i2 j (by omega)
