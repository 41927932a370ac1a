/-! hours -/
/-- r is the best of the values of the sets below k -/
def wBst (W : Int32) (V : Nat → Prop) (v : Nat → Int32) (k : Nat) (r : Int32) : Prop := (∃ s, s < k ∧ V s ∧ r = v s) ∧ ∀ s, s < k → V s → if W = 0 then r ≤ v s else v s ≤ r
def wCmb (W x v : Int32) : Int32 := if W = 0 then (if x ≤ v then x else v) else (if v ≤ x then x else v)
theorem wBst_new {W : Int32} {V : Nat → Prop} {v : Nat → Int32} {k : Nat} (h : ∀ s, s < 2 * k → ¬ V s) (h1 : V (2 * k)) (ho : ∀ s, V s → s % 2 = 0) : wBst W V v (2 * (k + 1)) (v (2 * k)) := by
  refine ⟨⟨2 * k, by omega, h1, rfl⟩, fun s hs hv => ?_⟩
  have : s = 2 * k := by
    have := ho s hv
    rcases Nat.lt_or_ge s (2 * k) with h2 | h2
    · exact absurd hv (h s h2)
    · omega
  rw [this]
  split <;> exact Int32.le_refl _
theorem wBst_add {W x : Int32} {V : Nat → Prop} {v : Nat → Int32} {k : Nat} (h : wBst W V v (2 * k) x) (h1 : V (2 * k)) (ho : ∀ s, V s → s % 2 = 0) : wBst W V v (2 * (k + 1)) (wCmb W x (v (2 * k))) := by
  obtain ⟨⟨s0, a1, a2, a3⟩, h2⟩ := h
  unfold wCmb
  refine ⟨?_, fun s hs hv => ?_⟩
  · have c1 : ∃ s, s < 2 * (k + 1) ∧ V s ∧ x = v s := ⟨s0, by omega, a2, a3⟩
    have c2 : ∃ s, s < 2 * (k + 1) ∧ V s ∧ v (2 * k) = v s := ⟨2 * k, by omega, h1, rfl⟩
    split <;> split <;> assumption
  · have hcase : s = 2 * k ∨ s < 2 * k := by have := ho s hv; omega
    by_cases hW : W = 0
    · rw [if_pos hW, if_pos hW]
      rcases hcase with rfl | hl
      · split
        · assumption
        · exact Int32.le_refl _
      · have := h2 s hl hv
        rw [if_pos hW] at this
        split
        · exact this
        · rename_i hn
          exact Int32.le_trans (Int32.le_of_lt (Int32.not_le.mp hn)) this
    · rw [if_neg hW, if_neg hW]
      rcases hcase with rfl | hl
      · split
        · assumption
        · exact Int32.le_refl _
      · have := h2 s hl hv
        rw [if_neg hW] at this
        split
        · exact this
        · rename_i hn
          exact Int32.le_trans this (Int32.le_of_lt (Int32.not_le.mp hn))
theorem wBst_skip {W x : Int32} {V : Nat → Prop} {v : Nat → Int32} {k : Nat} (h : wBst W V v (2 * k) x) (h1 : ¬ V (2 * k)) (ho : ∀ s, V s → s % 2 = 0) : wBst W V v (2 * (k + 1)) x := by
  obtain ⟨⟨s0, a1, a2, a3⟩, h2⟩ := h
  refine ⟨⟨s0, by omega, a2, a3⟩, fun s hs hv => ?_⟩
  have := ho s hv
  by_cases hs2 : s = 2 * k
  · rw [hs2] at hv; exact absurd hv h1
  · exact h2 s (by omega) hv
theorem wNon_skip {V : Nat → Prop} {k : Nat} (h : ∀ s, s < 2 * k → ¬ V s) (h1 : ¬ V (2 * k)) (ho : ∀ s, V s → s % 2 = 0) : ∀ s, s < 2 * (k + 1) → ¬ V s := by
  intro s hs hv
  have := ho s hv
  by_cases hs2 : s = 2 * k
  · rw [hs2] at hv; exact h1 hv
  · exact h s (by omega) hv
def wTb (s : Nat) : Nat → Bool := fun j => s.testBit j
def wVl (N : rM) (F m b : Nat) (W : Int32) (s : Nat) : Int32 := if W = 0 then -(eHd N (wTb s) F m (10 * b + 0)) else eHd N (wTb s) F m (10 * 0 + b)
theorem wVl_ne {m F b s : Nat} {N : rM} {W : Int32} (hm : m ≤ 10) (h : eFk m F N) : wVl N F m b W s ≠ -2147483648 := by
  intro he
  have he := congrArg Int32.toInt he
  rw [show (-2147483648 : Int32).toInt = -2147483648 from rfl] at he
  have hp : (2 : Int) ^ m ≤ 1024 := by
    have : ∀ m : Nat, m ≤ 10 → (2 : Int) ^ m ≤ 1024 := by decide
    exact this m hm
  unfold wVl at he
  split at he
  · have := eHd_ge (wTb s) h m hm (10 * b + 0)
    rw [Int32.toInt_neg, en_bmod (by omega) (by omega)] at he
    omega
  · have := eHd_ge (wTb s) h m hm (10 * 0 + b)
    omega
/-- sets that the reference takes; those that the class takes -/
def wVR (N : rM) (F m L : Nat) (s : Nat) : Prop := s % 2 = 0 ∧ eBc s ≤ L ∧ eFs N (wTb s) F m m
def wVC (N : rM) (F m L T : Nat) (s : Nat) : Prop := wVR N F m L s ∧ ∀ j, s.testBit j = true → T.testBit j = true
theorem tellers_c {m F : Nat} {MC : cM} {MR : rM} (hm : m ≤ 10) (hF : F ≤ 20) (hfc : eFc F MC MR) (hfk : eFk m F MR) : ∃ T, T < 2 ^ m ∧ m1_allTellers MC = some (nI T, MC) ∧ ∀ j, T.testBit j = true ↔ ∃ i, i < F ∧ nx (rg MR 1352 0 i) = j := by
  obtain ⟨f1, f2, f3⟩ := hfc
  have key : ∃ x, m1_allTellers MC = some (x, MC) ∧ ∀ j, eb x j = true ↔ ∃ i, i < F ∧ nx (rg MR 1352 0 i) = j := by
    unfold m1_allTellers
    refine eloop (σ := Int32) (fun f k x => ∃ y, m1_allTellers_4 f x (nI k) MC = some (y, MC) ∧ ∀ j, eb y j = true ↔ ∃ i, i < F ∧ nx (rg MR 1352 0 i) = j) (fun k x => ∀ j, eb x j = true ↔ ∃ i, i < k ∧ nx (rg MR 1352 0 i) = j) (m := F) (k0 := 0) (by omega) ?_ ?_ (zfu_gt (by omega)) (fun j => by rw [eb_0]; simp)
    · rintro f x hI
      exact ⟨x, by rw [m1_allTellers_4, f1, if_pos (by rw [eI_le (by omega) (by omega)]; omega)], hI⟩
    · rintro f k x hk0 hk hI ih
      obtain ⟨⟨p, a, b, p1, p2, p3, p4, p5, p6, p7⟩, -⟩ := hfk k hk
      rw [m1_allTellers_4]
      simp only [f1, eI_le (show F < 2 ^ 31 by omega) (show k < 2 ^ 31 by omega), show (F ≤ k) = False from eq_false (by omega), show ((20 : Int32) ≤ nI k) = False from eq_false (by rw [show (20 : Int32) = nI 20 from rfl, eI_le (by omega) (by omega)]; omega), ezin_nI (show k < 20 by omega) (show 20 < 2 ^ 31 by decide), ex_nI (show k < 2 ^ 31 by omega), (f3 k hk).1, p5, ep1, zbd_s, zbv_s, zgd_t, Bool.and_true, Bool.true_and, Bool.and_self, if_true, if_false, e_01, eq_self, Bool.false_eq_true]
      refine ih _ (fun j => ?_)
      rw [eb_or, eb_shl (by omega), Bool.or_eq_true, hI j, decide_eq_true_iff]
      constructor
      · rintro (⟨i, h1, h2⟩ | h)
        · exact ⟨i, by omega, h2⟩
        · exact ⟨k, by omega, by rw [p5, ex_nI (by omega), h]⟩
      · rintro ⟨i, h1, h2⟩
        by_cases hik : i = k
        · right; rw [← h2, hik, p5, ex_nI (by omega)]
        · exact .inl ⟨i, by omega, h2⟩
  obtain ⟨x, x1, x2⟩ := key
  obtain ⟨T, t1, t2⟩ := eb_lt (x := x) (k := m) (by omega) (fun j hj => by
    cases h : eb x j
    · rfl
    · obtain ⟨i, h1, h2⟩ := (x2 j).mp h
      obtain ⟨⟨p, a, b, p1, p2, p3, p4, p5, p6, p7⟩, -⟩ := hfk i h1
      rw [p5, ex_nI (by omega)] at h2
      omega)
  have hT : T < 1024 := Nat.lt_of_lt_of_le t1 (by
    have : ∀ m : Nat, m ≤ 10 → 2 ^ m ≤ 1024 := by decide
    exact this m hm)
  refine ⟨T, t1, by rw [x1, t2], fun j => ?_⟩
  rw [← x2 j, t2, eb_nI T j (by omega)]
theorem sub_set {s T : Nat} (hs : s < 1024) (hT : T < 1024) : (nI s &&& (nI T ^^^ -1) = 0) ↔ ∀ j, s.testBit j = true → T.testBit j = true := by
  constructor
  · intro h j hj
    by_cases hj32 : j < 32
    · have : eb (nI s &&& (nI T ^^^ -1)) j = eb 0 j := congrArg (fun x => eb x j) h
      rw [eb_and, eb_xor, eb_m1 hj32, eb_0, eb_nI s j (by omega), eb_nI T j (by omega), hj] at this
      simpa using this
    · exfalso
      have : s < 2 ^ j := Nat.lt_of_lt_of_le hs (by
        have : 2 ^ 10 ≤ 2 ^ j := Nat.pow_le_pow_right (by decide) (by omega)
        omega)
      rw [Nat.testBit_lt_two_pow this] at hj
      cases hj
  · intro h
    refine eb_ext (fun j hj => ?_)
    rw [eb_and, eb_xor, eb_m1 hj, eb_0, eb_nI s j (by omega), eb_nI T j (by omega)]
    cases h1 : s.testBit j
    · rfl
    · rw [h j h1]; rfl
theorem hour_c {m F b L T : Nat} {W : Int32} {MC : cM} {MR : rM} (hm : m ≤ 10) (hb : b < m) (hF : F ≤ 20) (hL : L ≤ 2) (h0 : cg MC 3 0 4 = nI m) (hfc : eFc F MC MR) (hfk : eFk m F MR) (hT : T < 1024) (x4 : Int32) (i5 : Int32) (hi4 : x4 = 0) (hi5 : ∀ v, wCmb W i5 v = v) : ∃ r M', m1_aheadOfRoot_27 zfu (nI b) (nI L) W x4 i5 (nI T ^^^ -1) 0 MC = some (r, M') ∧ eOk MC M' ∧ (((∀ s, s < 1024 → ¬ wVC MR F m L T s) ∧ r = -2147483648) ∨ wBst W (wVC MR F m L T) (wVl MR F m b W) 1024 r) := by
  have n10 : ((1 : Int32) = 0) = False := eq_false (by decide)
  have ho : ∀ s, wVC MR F m L T s → s % 2 = 0 := fun s h => h.1.1
  refine eloop (σ := cM × Int32 × Int32) (fun f k s => ∃ r M', m1_aheadOfRoot_27 f (nI b) (nI L) W s.2.1 s.2.2 (nI T ^^^ -1) (nI (2 * k)) s.1 = some (r, M') ∧ eOk MC M' ∧ (((∀ s, s < 1024 → ¬ wVC MR F m L T s) ∧ r = -2147483648) ∨ wBst W (wVC MR F m L T) (wVl MR F m b W) 1024 r)) (fun k s => eOk MC s.1 ∧ ((s.2.1 = 0 ∧ s.2.2 = i5 ∧ ∀ x, x < 2 * k → ¬ wVC MR F m L T x) ∨ (s.2.1 = 1 ∧ wBst W (wVC MR F m L T) (wVl MR F m b W) (2 * k) s.2.2))) (s := (MC, x4, i5)) (m := 512) (k0 := 0) (by omega) ?_ ?_ (zfu_gt (by omega)) ⟨⟨eF_refl, rfl⟩, .inl ⟨hi4, rfl, fun x hx => absurd hx (by omega)⟩⟩
  · rintro f ⟨M, y4, y5⟩ ⟨i1, i2⟩
    dsimp only at i1 i2 ⊢
    rw [m1_aheadOfRoot_27, if_pos (show (1024 : Int32) ≤ nI (2 * 512) from by decide)]
    rcases i2 with ⟨a1, a2, a3⟩ | ⟨a1, a2⟩
    · rw [if_pos a1]
      exact ⟨_, M, rfl, i1, .inl ⟨a3, rfl⟩⟩
    · rw [if_neg (by rw [a1]; decide)]
      exact ⟨_, M, rfl, i1, .inr a2⟩
  · rintro f k ⟨M, y4, y5⟩ hk0 hk ⟨i1, i2⟩ ih
    dsimp only at i1 i2 ⊢
    have skip : ∀ M', eOk MC M' → ¬ wVC MR F m L T (2 * k) → ∃ r M'', m1_aheadOfRoot_104 (m1_aheadOfRoot_27 f) (nI b) (nI L) W y4 y5 (nI T ^^^ -1) (nI (2 * k)) M' = some (r, M'') ∧ eOk MC M'' ∧ (((∀ s, s < 1024 → ¬ wVC MR F m L T s) ∧ r = -2147483648) ∨ wBst W (wVC MR F m L T) (wVl MR F m b W) 1024 r) := by
      intro M' h1 h2
      unfold m1_aheadOfRoot_104
      rw [show nI (2 * k) + (2 : Int32) = nI (2 * (k + 1)) from by rw [show (2 : Int32) = nI 2 from rfl, eI_add]; rfl]
      have z := ih (M', y4, y5)
      dsimp only at z
      refine z ⟨h1, ?_⟩
      rcases i2 with ⟨a1, a2, a3⟩ | ⟨a1, a2⟩
      · exact .inl ⟨a1, a2, wNon_skip a3 h2 ho⟩
      · exact .inr ⟨a1, wBst_skip a2 h2 ho⟩
    have take : ∀ M', eOk MC M' → wVC MR F m L T (2 * k) → ∃ r M'', m1_aheadOfRoot_104 (m1_aheadOfRoot_27 f) (nI b) (nI L) W 1 (wCmb W y5 (wVl MR F m b W (2 * k))) (nI T ^^^ -1) (nI (2 * k)) M' = some (r, M'') ∧ eOk MC M'' ∧ (((∀ s, s < 1024 → ¬ wVC MR F m L T s) ∧ r = -2147483648) ∨ wBst W (wVC MR F m L T) (wVl MR F m b W) 1024 r) := by
      intro M' h1 h2
      unfold m1_aheadOfRoot_104
      rw [show nI (2 * k) + (2 : Int32) = nI (2 * (k + 1)) from by rw [show (2 : Int32) = nI 2 from rfl, eI_add]; rfl]
      have z := ih (M', 1, wCmb W y5 (wVl MR F m b W (2 * k)))
      dsimp only at z
      refine z ⟨h1, .inr ⟨rfl, ?_⟩⟩
      rcases i2 with ⟨a1, a2, a3⟩ | ⟨a1, a2⟩
      · rw [a2, hi5]
        exact wBst_new a3 h2 ho
      · exact wBst_add a2 h2 ho
    have hbc : eBc (2 * k) ≤ 10 := eNum_le 10 _
    rw [m1_aheadOfRoot_27]
    simp only [show ((1024 : Int32) ≤ nI (2 * k)) = False from eq_false (by rw [show (1024 : Int32) = nI 1024 from rfl, eI_le (by omega) (by omega)]; omega), bitC (show 2 * k < 1024 by omega), zbd_s, zbv_s, zgd_t, Bool.and_true, Bool.true_and, Bool.and_self, if_true, if_false, e_01, eq_self, Bool.false_eq_true]
    by_cases hsub : ∀ j, (2 * k).testBit j = true → T.testBit j = true
    · rw [if_pos ((sub_set (show 2 * k < 1024 by omega) hT).mpr hsub)]
      by_cases hl : eBc (2 * k) ≤ L
      · rw [if_pos ((eI_le (show eBc (2 * k) < 2 ^ 31 by omega) (show L < 2 ^ 31 by omega)).mpr hl)]
        obtain ⟨r, M', c1, c2, c3⟩ := can_c (MC := M) (MR := MR) (sn := 2 * k) hm (by omega) hF (by rw [i1.1 3 0 4 rfl, h0]) ⟨by rw [i1.1 1 0 6 rfl]; exact hfc.1, hfc.2.1, fun i hi => by
          rw [i1.1 201 0 i rfl, i1.1 202 0 i rfl, i1.1 203 0 i rfl, i1.1 204 0 i rfl, i1.1 205 0 i rfl]; exact hfc.2.2 i hi⟩ hfk (by omega)
        have ok' : eOk MC M' := ⟨eF_trans i1.1 c2.1, c2.2.trans i1.2⟩
        rw [c1, zbd_s]
        rcases c3 with ⟨r1, r2, r3⟩ | ⟨r1, r2⟩
        · have hV : wVC MR F m L T (2 * k) := ⟨⟨by omega, hl, r2⟩, hsub⟩
          rw [if_neg (by rw [r1]; decide)]
          have t := take M' ok' hV
          have e1 := r3 b 0 hb (by omega)
          have e2 := r3 0 b (by omega) hb
          dsimp only at e1 e2
          by_cases hW : W = 0
          · rw [if_pos hW, show (0 : Int32) = nI 0 from rfl, at_c (by omega) (by omega), zbd_s, min_c, zbd_s, e1]
            unfold wCmb wVl at t
            rw [if_pos hW, if_pos hW] at t
            exact t
          · rw [if_neg hW, show (0 : Int32) = nI 0 from rfl, at_c (by omega) (by omega), zbd_s, max_c, zbd_s, e2]
            unfold wCmb wVl at t
            rw [if_neg hW, if_neg hW] at t
            exact t
        · rw [if_pos r1]
          exact skip M' ok' (fun h => r2 h.1.2.2)
      · rw [if_neg (fun h => hl ((eI_le (show eBc (2 * k) < 2 ^ 31 by omega) (show L < 2 ^ 31 by omega)).mp h))]
        exact skip M i1 (fun h => hl h.1.2.1)
    · rw [if_neg (fun h => hsub ((sub_set (show 2 * k < 1024 by omega) hT).mp h))]
      exact skip M i1 (fun h => hsub h.2)
theorem hour_e {m F b L : Nat} {W : Int32} {MR : rM} (hm : m ≤ 10) (hb : b < m) (hF : F ≤ 20) (hL : L ≤ 2) (h0 : rg MR 12 0 0 = nI m) (f2 : rg MR 12 0 51 = nI F) (hfk : eFk m F MR) : ∃ r N', m12_hour_38 zfu (nI b) (nI L) W (-2147483648) 0 MR = some (r, N') ∧ eH [1357] MR N' ∧ (((∀ s, s < 2 ^ m → ¬ wVR MR F m L s) ∧ r = -2147483648) ∨ wBst W (wVR MR F m L) (wVl MR F m b W) (2 ^ m) r) := by
  have ho : ∀ s, wVR MR F m L s → s % 2 = 0 := fun s h => h.1
  obtain ⟨H, hH, hH5⟩ : ∃ H, 2 ^ m = 2 * H ∧ H ≤ 512 := by
    have : ∀ m : Nat, m ≤ 10 → 1 ≤ m → 2 ^ m = 2 * (2 ^ (m - 1)) ∧ 2 ^ (m - 1) ≤ 512 := by decide
    exact ⟨2 ^ (m - 1), this m hm (by omega)⟩
  rw [hH]
  refine eloop (σ := rM × Int32) (fun f k s => ∃ r N', m12_hour_38 f (nI b) (nI L) W s.2 (nI (2 * k)) s.1 = some (r, N') ∧ eH [1357] MR N' ∧ (((∀ s, s < 2 * H → ¬ wVR MR F m L s) ∧ r = -2147483648) ∨ wBst W (wVR MR F m L) (wVl MR F m b W) (2 * H) r)) (fun k s => eH [1357] MR s.1 ∧ (((∀ x, x < 2 * k → ¬ wVR MR F m L x) ∧ s.2 = -2147483648) ∨ wBst W (wVR MR F m L) (wVl MR F m b W) (2 * k) s.2)) (s := (MR, -2147483648)) (m := H) (k0 := 0) (by omega) ?_ ?_ (zfu_gt (by omega)) ⟨eH_refl, .inl ⟨fun x hx => absurd hx (by omega), rfl⟩⟩
  · rintro f ⟨N, y4⟩ ⟨i1, i2⟩
    dsimp only at i1 i2 ⊢
    refine ⟨y4, N, ?_, i1, i2⟩
    rw [m12_hour_38, i1 12 0 0 rfl, h0, zshl_pow (by omega), hH, if_pos (by rw [eI_le (by omega) (by omega)]; omega)]
  · rintro f k ⟨N, y4⟩ hk0 hk ⟨i1, i2⟩ ih
    dsimp only at i1 i2 ⊢
    have skip : ∀ N', eH [1357] MR N' → ¬ wVR MR F m L (2 * k) → ∃ r N'', m12_hour_159 (m12_hour_38 f) (nI b) (nI L) W y4 (nI (2 * k)) N' = some (r, N'') ∧ eH [1357] MR N'' ∧ (((∀ s, s < 2 * H → ¬ wVR MR F m L s) ∧ r = -2147483648) ∨ wBst W (wVR MR F m L) (wVl MR F m b W) (2 * H) r) := by
      intro N' h1 h2
      unfold m12_hour_159
      rw [show nI (2 * k) + (2 : Int32) = nI (2 * (k + 1)) from by rw [show (2 : Int32) = nI 2 from rfl, eI_add]; rfl]
      have z := ih (N', y4)
      dsimp only at z
      refine z ⟨h1, ?_⟩
      rcases i2 with ⟨a1, a2⟩ | a2
      · exact .inl ⟨wNon_skip a1 h2 ho, a2⟩
      · exact .inr (wBst_skip a2 h2 ho)
    have take : ∀ N', eH [1357] MR N' → wVR MR F m L (2 * k) → ∃ r N'', m12_hour_159 (m12_hour_38 f) (nI b) (nI L) W (if y4 = -2147483648 then wVl MR F m b W (2 * k) else wCmb W y4 (wVl MR F m b W (2 * k))) (nI (2 * k)) N' = some (r, N'') ∧ eH [1357] MR N'' ∧ (((∀ s, s < 2 * H → ¬ wVR MR F m L s) ∧ r = -2147483648) ∨ wBst W (wVR MR F m L) (wVl MR F m b W) (2 * H) r) := by
      intro N' h1 h2
      unfold m12_hour_159
      rw [show nI (2 * k) + (2 : Int32) = nI (2 * (k + 1)) from by rw [show (2 : Int32) = nI 2 from rfl, eI_add]; rfl]
      have z := ih (N', if y4 = -2147483648 then wVl MR F m b W (2 * k) else wCmb W y4 (wVl MR F m b W (2 * k)))
      dsimp only at z
      refine z ⟨h1, .inr ?_⟩
      rcases i2 with ⟨a1, a2⟩ | a2
      · rw [if_pos a2]
        exact wBst_new a1 h2 ho
      · have hne : y4 ≠ -2147483648 := by
          obtain ⟨⟨s, s1, s2, s3⟩, -⟩ := a2
          rw [s3]; exact wVl_ne hm hfk
        rw [if_neg hne]
        exact wBst_add a2 h2 ho
    have hbc : eBc (2 * k) ≤ 10 := eNum_le 10 _
    have hk1 : ¬ nI (2 * H) ≤ nI (2 * k) := by rw [eI_le (by omega) (by omega)]; omega
    rw [m12_hour_38, i1 12 0 0 rfl, h0, zshl_pow (by omega), hH, if_neg hk1, bits_e (show 2 * k < 1024 by omega), zbd_s]
    by_cases hl : eBc (2 * k) ≤ L
    · rw [if_neg (fun h => absurd ((eI_lt (show L < 2 ^ 31 by omega) (show eBc (2 * k) < 2 ^ 31 by omega)).mp h) (by omega))]
      obtain ⟨r, N', c1, c2, c3⟩ := can_e (MR := N) (sn := 2 * k) hm hF (by rw [i1 12 0 0 rfl, h0]) (by rw [i1 12 0 51 rfl, f2]) (fun i hi => by
        rw [i1 1352 0 i rfl, i1 1353 0 i rfl, i1 1354 0 i rfl, i1 1355 0 i rfl, i1 1356 0 i rfl]; exact hfk i hi) (show 2 * k < 1024 by omega)
      have hsame : ∀ s o, eHd N s F o = eHd MR s F o := by
        intro s o
        have hf : ∀ f, eHf N s f = eHf MR s f := by
          intro f
          induction f with
          | zero => rfl
          | succ f ih => rw [eHf_s, eHf_s, ih, i1 1352 0 f rfl, i1 1353 0 f rfl, i1 1354 0 f rfl, i1 1355 0 f rfl, i1 1356 0 f rfl]
        induction o with
        | zero => exact hf F
        | succ o ih => rw [eHd_s, eHd_s, ih]
      have hfs : ∀ s, eFs N s F m m = eFs MR s F m m := fun s => by
        unfold eFs; simp only [hsame]
      unfold eCan at c3
      rw [hfs, hsame] at c3
      have ok' := eH_trans i1 c2
      rw [c1, zbd_s]
      rcases c3 with ⟨r1, r2, r3⟩ | ⟨r1, r2⟩
      · have hV : wVR MR F m L (2 * k) := ⟨by omega, hl, r2⟩
        rw [if_neg (by rw [r1]; decide)]
        have t := take N' ok' hV
        have e1 : rg N' 1357 0 (10 * b) = eHd MR (wTb (2 * k)) F m (10 * b + 0) := r3 b 0 hb (by omega)
        have e2 : rg N' 1357 0 b = eHd MR (wTb (2 * k)) F m (10 * 0 + b) := by
          have := r3 0 b (by omega) hb
          dsimp only at this
          rw [show 10 * 0 + b = b by omega] at this ⊢
          exact this
        obtain ⟨V, hVv⟩ : ∃ V, V = wVl MR F m b W (2 * k) := ⟨_, rfl⟩
        have hv : V = if W = 0 then -(rg N' 1357 0 (10 * b)) else rg N' 1357 0 b := by rw [hVv, e1, e2]; rfl
        rw [← hVv] at t
        unfold m12_hour_106 m12_hour_119 m12_hour_157
        unfold wCmb at t
        simp only [ezin_nI (show b < 100 by omega) (show 100 < 2 ^ 31 by decide), ex_nI (show b < 2 ^ 31 by omega), e10, ezin_nI (show 10 * b < 100 by omega) (show 100 < 2 ^ 31 by decide), ex_nI (show 10 * b < 2 ^ 31 by omega), zbd_s, zbv_s, zgd_t, Bool.and_true, Bool.true_and, Bool.and_self, if_true, if_false, e_01, eq_self, Bool.false_eq_true]
        by_cases hW : W = 0
        · rw [if_pos hW] at hv
          simp only [hW, if_true] at t ⊢
          by_cases h9 : rg N' 1357 0 (10 * b) = 9999
          · rw [h9] at hv
            rw [hv] at t
            by_cases hy : y4 = -2147483648
            · simp only [h9, hy, if_true] at t ⊢; exact t
            · by_cases hc : y4 ≤ -9999
              · simp only [h9, hy, hc, if_true, if_false] at t ⊢; exact t
              · simp only [h9, hy, hc, if_true, if_false] at t ⊢; exact t
          · rw [hv] at t
            by_cases hy : y4 = -2147483648
            · simp only [h9, hy, if_true, if_false] at t ⊢; exact t
            · by_cases hc : y4 ≤ -rg N' 1357 0 (10 * b)
              · simp only [h9, hy, hc, if_true, if_false] at t ⊢; exact t
              · simp only [h9, hy, hc, if_true, if_false] at t ⊢; exact t
        · rw [if_neg hW] at hv
          rw [hv] at t
          simp only [hW, if_false] at t ⊢
          by_cases hy : y4 = -2147483648
          · simp only [hy, if_true] at t ⊢
            split <;> exact t
          · by_cases hc : rg N' 1357 0 b ≤ y4
            · simp only [hy, hc, if_true, if_false] at t ⊢
              split <;> exact t
            · simp only [hy, hc, if_true, if_false] at t ⊢
              split <;> exact t
      · rw [if_pos r1]
        exact skip N' ok' (fun h => r2 h.2.2)
    · rw [if_pos ((eI_lt (show L < 2 ^ 31 by omega) (show eBc (2 * k) < 2 ^ 31 by omega)).mpr (by omega))]
      exact skip N i1 (fun h => hl h.2.1)
/-- both have the same best -/
theorem wBst_eq {W r r' : Int32} {V V' : Nat → Prop} {v : Nat → Int32} {k k' : Nat} (h : wBst W V v k r) (h' : wBst W V' v k' r') (h1 : ∀ s, s < k → V s → ∃ s', s' < k' ∧ V' s' ∧ v s' = v s) (h2 : ∀ s, s < k' → V' s → ∃ s', s' < k ∧ V s' ∧ v s' = v s) : r = r' := by
  obtain ⟨⟨s, a1, a2, a3⟩, a4⟩ := h
  obtain ⟨⟨s', b1, b2, b3⟩, b4⟩ := h'
  obtain ⟨x, x1, x2, x3⟩ := h1 s a1 a2
  obtain ⟨y, y1, y2, y3⟩ := h2 s' b1 b2
  have c1 := b4 x x1 x2
  have c2 := a4 y y1 y2
  rw [x3, ← a3] at c1
  rw [y3, ← b3] at c2
  split at c1
  · rename_i hW
    rw [if_pos hW] at c2
    exact Int32.le_antisymm c2 c1
  · rename_i hW
    rw [if_neg hW] at c2
    exact Int32.le_antisymm c1 c2
theorem eNum_mono {n : Nat} {p q : Nat → Bool} (h : ∀ j, j < n → p j = true → q j = true) : eNum n p ≤ eNum n q := by
  induction n with
  | zero => exact Nat.le_refl _
  | succ n ih =>
    rw [eNum_s, eNum_s]
    have := ih (fun j hj => h j (by omega))
    have := h n (by omega)
    cases hp : p n
    · simp; omega
    · rw [this hp]; simp; omega
theorem o_hour {n : Nat} {MC : cM} {MR : rM} (h : eRel n MC MR) (x1 x2 x3 : Int32) : eO n (m11_hour x1 x2 x3 MC) (m12_hour x1 x2 x3 MR) := by
  obtain ⟨m, t, hm, ht, g0, g1, g2, g3, g4, g5, g6, g7, g8, g9⟩ := h
  have n10 : ((1 : Int32) = 0) = False := eq_false (by decide)
  unfold m11_hour m12_hour m11_hour_29 m12_hour_26
  rcases e_bx x1 m hm with hb | ⟨b, hb, rfl⟩
  · simp only [kn_n g0.1 hb, ib_n g0.2.1 hm hb, zbd_s, zbv_s, zgd_t, Bool.and_true, Bool.true_and, Bool.and_self, if_true, if_false, e_01, eq_self, Bool.false_eq_true]
    exact eO_same ⟨m, t, hm, ht, g0, g1, g2, g3, g4, g5, g6, g7, g8, g9⟩
  have hb10 : b < 10 := by omega
  simp only [kn_y g0.1 hm hb, ib_y g0.2.1 hm hb, of_y hb10, blt_t hb10, ezin_nI hb10 (show 10 < 2 ^ 31 by decide), ex_nI (show b < 2 ^ 31 by omega), zbd_s, zbv_s, zgd_t, Bool.and_true, Bool.true_and, Bool.and_self, if_true, if_false, e_01, eq_self, Bool.false_eq_true]
  rcases (Classical.em ((0 : Int32) ≤ x2 ∧ x2 ≤ 2)).symm with h2 | h2
  · simp only [out_y h2, in_n h2, zbd_s, zbv_s, zgd_t, Bool.and_true, Bool.true_and, Bool.and_self, if_true, if_false, e_01, eq_self, Bool.false_eq_true]
    exact eO_same ⟨m, t, hm, ht, g0, g1, g2, g3, g4, g5, g6, g7, g8, g9⟩
  simp only [out_n h2.1 h2.2, in_y h2.1 h2.2, zbd_s, zbv_s, zgd_t, Bool.and_true, Bool.true_and, Bool.and_self, if_true, if_false, e_01, eq_self, Bool.false_eq_true]
  rcases (Classical.em ((0 : Int32) ≤ x3 ∧ x3 ≤ 1)).symm with h3 | h3
  · simp only [out_y h3, in_n h3, zbd_s, zbv_s, zgd_t, Bool.and_true, Bool.true_and, Bool.and_self, if_true, if_false, e_01, eq_self, Bool.false_eq_true]
    exact eO_same ⟨m, t, hm, ht, g0, g1, g2, g3, g4, g5, g6, g7, g8, g9⟩
  simp only [out_n h3.1 h3.2, in_y h3.1 h3.2, zbd_s, zbv_s, zgd_t, Bool.and_true, Bool.true_and, Bool.and_self, if_true, if_false, e_01, eq_self, Bool.false_eq_true]
  obtain ⟨L, hL, rfl⟩ := eI_ofl (x := x2) (b := 2) h2.1 h2.2 (by decide)
  obtain ⟨F, hF, f1, f2, f3⟩ := g6
  have hfc : eFc F MC MR := ⟨f1, f2, fun i hi => by
    obtain ⟨a1, a2, a3, a4, a5, -⟩ := f3 i hi
    exact ⟨a1, a2, a3, a4, a5⟩⟩
  have hfk : eFk m F MR := fun i hi => by
    obtain ⟨a1, a2, a3, a4, a5, a6, a7, a8, a9⟩ := f3 i hi
    exact ⟨a6, a7, a8, a9⟩
  obtain ⟨T, t1, t2, t3⟩ := tellers_c hm hF hfc hfk
  have hm2 : 2 ^ m ≤ 1024 := by
    have : ∀ m : Nat, m ≤ 10 → 2 ^ m ≤ 1024 := by decide
    exact this m hm
  have key : ∀ W : Int32, (W = 0 ∨ W = 1) → ∃ r MC' MR', m11_hour_48 (nI b) (nI L) W MC = some (r, MC') ∧ m12_hour_38 zfu (nI b) (nI L) W (-2147483648) 0 MR = some (r, MR') ∧ eOk MC MC' ∧ eH [1357] MR MR' := by
    intro W hW
    obtain ⟨r', N', e1, e2, e3⟩ := hour_e (W := W) hm hb hF hL g0.2.1 f2 hfk
    have hc : ∃ r M', m1_aheadOfRoot (nI b) (nI L) W MC = some (r, M') ∧ eOk MC M' ∧ (((∀ s, s < 1024 → ¬ wVC MR F m L T s) ∧ r = -2147483648) ∨ wBst W (wVC MR F m L T) (wVl MR F m b W) 1024 r) := by
      unfold m1_aheadOfRoot m1_aheadOfRoot_14
      rw [t2, zbd_s, zbd_s]
      rcases hW with rfl | rfl
      · rw [if_pos rfl]
        refine hour_c hm hb hF hL g0.1 hfc hfk (by omega) 0 2147483647 rfl (fun v => ?_)
        unfold wCmb
        rw [if_pos rfl]
        split
        · rename_i hv
          have h1 := Int32.toInt_lt v
          have h2 := en_ti hv
          rw [show (2147483647 : Int32).toInt = 2147483647 from rfl] at h2
          rw [← Int32.toInt_inj, show (2147483647 : Int32).toInt = 2147483647 from rfl]; omega
        · rfl
      · rw [if_neg (by decide)]
        refine hour_c hm hb hF hL g0.1 hfc hfk (by omega) 0 (-2147483648) rfl (fun v => ?_)
        unfold wCmb
        rw [if_neg (by decide)]
        split
        · rename_i hv
          have h1 := Int32.le_toInt v
          have h2 := en_ti hv
          rw [show (-2147483648 : Int32).toInt = -2147483648 from rfl] at h2
          rw [← Int32.toInt_inj, show (-2147483648 : Int32).toInt = -2147483648 from rfl]; omega
        · rfl
    obtain ⟨r, M', c1, c2, c3⟩ := hc
    have dn : ∀ s, s < 2 ^ m → wVR MR F m L s → ∃ s', s' < 1024 ∧ wVC MR F m L T s' ∧ wVl MR F m b W s' = wVl MR F m b W s := by
      intro s hs hv
      have hcg : ∀ o, eHd MR (wTb (s &&& T)) F o = eHd MR (wTb s) F o := fun o => eHd_cg (fun i hi => by
        unfold wTb
        rw [Nat.testBit_and, (t3 _).mpr ⟨i, hi, rfl⟩, Bool.and_true]) o
      refine ⟨s &&& T, Nat.lt_of_le_of_lt Nat.and_le_left (by omega), ⟨⟨?_, ?_, ?_⟩, fun j hj => ?_⟩, ?_⟩
      · have h1 : (s &&& T).testBit 0 = false := by
          rw [Nat.testBit_and, Nat.testBit_zero, hv.1]; rfl
        rw [Nat.testBit_zero] at h1
        have := of_decide_eq_false h1
        omega
      · refine Nat.le_trans (eNum_mono (fun j _ hj => ?_)) hv.2.1
        rw [Nat.testBit_and, Bool.and_eq_true] at hj
        exact hj.1
      · have := hv.2.2
        unfold eFs at *
        simp only [hcg]
        exact this
      · rw [Nat.testBit_and, Bool.and_eq_true] at hj
        exact hj.2
      · unfold wVl; rw [hcg]
    have up : ∀ s, s < 1024 → wVC MR F m L T s → ∃ s', s' < 2 ^ m ∧ wVR MR F m L s' ∧ wVl MR F m b W s' = wVl MR F m b W s := by
      intro s hs hv
      refine ⟨s, ?_, hv.1, rfl⟩
      refine Nat.lt_pow_two_of_testBit _ (fun i hi => ?_)
      cases hb : s.testBit i
      · rfl
      · have := hv.2 i hb
        rw [Nat.testBit_lt_two_pow (Nat.lt_of_lt_of_le t1 (Nat.pow_le_pow_right (by decide) hi))] at this
        cases this
    have hr : r = r' := by
      rcases c3 with ⟨c3, c4⟩ | c3
      · rcases e3 with ⟨e3, e4⟩ | e3
        · rw [c4, e4]
        · obtain ⟨⟨s, s1, s2, s3⟩, -⟩ := e3
          obtain ⟨s', s4, s5, s6⟩ := dn s s1 s2
          exact absurd s5 (c3 s' s4)
      · rcases e3 with ⟨e3, e4⟩ | e3
        · obtain ⟨⟨s, s1, s2, s3⟩, -⟩ := c3
          obtain ⟨s', s4, s5, s6⟩ := up s s1 s2
          exact absurd s5 (e3 s' s4)
        · exact wBst_eq c3 e3 up dn
    refine ⟨r, M', N', ?_, by rw [hr]; exact e1, c2, e2⟩
    unfold m11_hour_48
    rw [c1, zbd_s]
  have fin : ∀ W : Int32, (W = 0 ∨ W = 1) → eO n (m11_hour_48 (nI b) (nI L) W MC) (m12_hour_38 zfu (nI b) (nI L) W (-2147483648) 0 MR) := by
    intro W hW
    obtain ⟨r, MC', MR', k1, k2, k3, k4⟩ := key W hW
    rw [k1, k2]
    exact eO_fin rfl (eRel_fr hm ht g0 g1 g2 g3 g4 g5 ⟨F, hF, f1, f2, f3⟩ g7 g8 g9 k3.1 k4 k3.2 rfl rfl)
  have hx3 : x3 = 0 ∨ x3 = 1 := by
    obtain ⟨w, hw, rfl⟩ := eI_ofl (x := x3) (b := 1) h3.1 h3.2 (by decide)
    have : w = 0 ∨ w = 1 := by omega
    rcases this with rfl | rfl
    · exact .inl rfl
    · exact .inr rfl
  rcases hx3 with rfl | rfl
  · simp only [n10, show ((0 : Int32) = 1) = False from eq_false (by decide), zbd_s, zbv_s, zgd_t, Bool.and_true, Bool.true_and, Bool.and_self, if_true, if_false, e_01, eq_self, Bool.false_eq_true]
    exact fin 0 (.inl rfl)
  · simp only [n10, zbd_s, zbv_s, zgd_t, Bool.and_true, Bool.true_and, Bool.and_self, if_true, if_false, e_01, eq_self, Bool.false_eq_true]
    exact fin 1 (.inr rfl)
