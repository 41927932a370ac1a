/-! the text, token by token -/
def eKn (x : Int32) : Int32 := if 97 ≤ x ∧ x ≤ 122 then 1 else if 48 ≤ x ∧ x ≤ 57 then 2 else 0
theorem kind_c (x : Int32) (M : cM) : m10_kindOf x M = some (eKn x, M) := by
  unfold m10_kindOf m10_kindOf_14 eKn
  by_cases h1 : x < 97
  · have h1' : ¬ 97 ≤ x := Int32.not_le.mpr h1
    by_cases h3 : x < 48
    · have h3' : ¬ 48 ≤ x := Int32.not_le.mpr h3
      simp [h1, h3, h1', h3']
    · have h3' : 48 ≤ x := Int32.not_lt.mp h3
      by_cases h4 : 57 < x
      · have h4' : ¬ x ≤ 57 := Int32.not_le.mpr h4
        simp [h1, h3, h4, h1', h3', h4']
      · have h4' : x ≤ 57 := Int32.not_lt.mp h4
        simp [h1, h3, h4, h1', h3', h4']
  · have h1' : 97 ≤ x := Int32.not_lt.mp h1
    by_cases h2 : 122 < x
    · have h2' : ¬ x ≤ 122 := Int32.not_le.mpr h2
      have h3 : ¬ x < 48 := by lia
      have h4 : 57 < x := by lia
      have h4' : ¬ x ≤ 57 := Int32.not_le.mpr h4
      simp [h1, h2, h1', h2', h3, h4, h4']
    · have h2' : x ≤ 122 := Int32.not_lt.mp h2
      simp [h1, h2, h1', h2']
def eSk (T : Nat → Int32) (q p : Nat) : Nat := match eFd (fun j => !(decide (T j = 32))) (q - p) p with
  | none => q
  | some s => s
theorem eSk_ok (T : Nat → Int32) {q p : Nat} (hp : p ≤ q) : p ≤ eSk T q p ∧ eSk T q p ≤ q ∧ (∀ j, p ≤ j → j < eSk T q p → T j = 32) ∧ (eSk T q p < q → ¬ T (eSk T q p) = 32) := by
  unfold eSk
  cases h : eFd (fun j => !(decide (T j = 32))) (q - p) p with
  | none =>
    refine ⟨hp, Nat.le_refl _, fun j h1 h2 => ?_, fun h => absurd h (Nat.lt_irrefl _)⟩
    have := eFd_none _ _ _ h j h1 (by dsimp only at h2; omega)
    simpa using this
  | some s =>
    have h1 := eFd_ok _ _ _ _ h
    have h2 := eFd_least _ _ _ _ h
    refine ⟨h1.1, by dsimp only; omega, fun j a1 a2 => by simpa using h2 j a1 a2, fun _ => by simpa using h1.2.2⟩
def eEd (T : Nat → Int32) (q s : Nat) : Nat := if q ≤ s then s else if eKn (T s) = 0 then s + 1 else match eFd (fun j => !(decide (eKn (T j) = eKn (T s)))) (q - (s + 1)) (s + 1) with
  | none => q
  | some e => e
theorem eEd_ok (T : Nat → Int32) {q s : Nat} (hs : s < q) : s + 1 ≤ eEd T q s ∧ eEd T q s ≤ q ∧ (∀ j, s ≤ j → j < eEd T q s → eKn (T j) = eKn (T s)) ∧ (eEd T q s < q → eKn (T s) = 0 ∨ ¬ eKn (T (eEd T q s)) = eKn (T s)) ∧ (eKn (T s) = 0 → eEd T q s = s + 1) := by
  unfold eEd
  rw [if_neg (by omega)]
  by_cases hk : eKn (T s) = 0
  · rw [if_pos hk]
    exact ⟨Nat.le_refl _, hs, fun j h1 h2 => by have : j = s := by omega
                                                rw [this], fun _ => .inl hk, fun _ => rfl⟩
  · rw [if_neg hk]
    cases h : eFd (fun j => !(decide (eKn (T j) = eKn (T s)))) (q - (s + 1)) (s + 1) with
    | none =>
      refine ⟨hs, Nat.le_refl _, fun j h1 h2 => ?_, fun h => absurd h (Nat.lt_irrefl _), fun h => absurd h hk⟩
      by_cases hj : j = s
      · rw [hj]
      · have := eFd_none _ _ _ h j (by omega) (by dsimp only at h2; omega)
        simpa using this
    | some e =>
      have h1 := eFd_ok _ _ _ _ h
      have h2 := eFd_least _ _ _ _ h
      refine ⟨h1.1, by dsimp only; omega, fun j a1 a2 => ?_, fun _ => .inr (by simpa using h1.2.2), fun h => absurd h hk⟩
      by_cases hj : j = s
      · rw [hj]
      · simpa using h2 j (by omega) a2
theorem byte_c {j : Nat} (hj : j < 120) (M : cM) : m10_byteAt (nI j) M = some (cg M 1100 0 j, M) := by
  unfold m10_byteAt
  rw [if_neg, if_neg]
  · simp only [ezin_nI (show j < 120 by omega) (show 120 < 2 ^ 31 by decide), ex_nI (show j < 2 ^ 31 by omega), zbd_s, zbv_s, zgd_t, Bool.and_true, Bool.true_and, Bool.and_self, if_true, if_false, e_01, eq_self, Bool.false_eq_true]
  · rw [show (120 : Int32) = nI 120 from rfl, eI_le (by omega) (by omega)]; omega
  · rw [show (0 : Int32) = nI 0 from rfl, eI_lt (by omega) (by omega)]; omega
/-- the text is T, of q bytes -/
def eTxC (T : Nat → Int32) (q : Nat) (M : cM) : Prop := q ≤ 120 ∧ cg M 10 0 1 = nI q ∧ ∀ j, j < q → cg M 1100 0 j = T j
theorem next_c {T : Nat → Int32} {q p : Nat} {MC : cM} (h : eTxC T q MC) (hp : p ≤ q) (h3 : cg MC 10 0 3 = nI p) : ∃ MC', m10_nextToken MC = some MC' ∧ eF [11002, 11003] MC MC' ∧ MC'.2 = MC.2 ∧ cg MC' 10 0 2 = nI (eSk T q p) ∧ cg MC' 10 0 3 = nI (eEd T q (eSk T q p)) := by
  obtain ⟨hq, h1, hT⟩ := h
  obtain ⟨s1, s2, s3, s4⟩ := eSk_ok T hp
  obtain ⟨s, hs⟩ : ∃ s, s = eSk T q p := ⟨_, rfl⟩
  rw [← hs] at s1 s2 s3 s4 ⊢
  unfold m10_nextToken
  rw [h3]
  refine eloop (σ := cM) (fun f k M => ∃ MC', m10_nextToken_8 f M = some MC' ∧ eF [11002, 11003] MC MC' ∧ MC'.2 = MC.2 ∧ cg MC' 10 0 2 = nI s ∧ cg MC' 10 0 3 = nI (eEd T q s)) (fun k M => eF [11002] MC M ∧ M.2 = MC.2 ∧ cg M 10 0 2 = nI k) (m := s) (k0 := p) s1 ?_ ?_ (zfu_gt (by omega)) ⟨eF_cs eF_refl rfl, rfl, rfl⟩
  · rintro f M ⟨i1, i2, i3⟩
    have e1 : cg M 10 0 1 = nI q := by rw [i1 10 0 1 rfl, h1]
    have h45 : ∃ MC', m10_nextToken_45 M = some MC' ∧ eF [11002, 11003] MC MC' ∧ MC'.2 = MC.2 ∧ cg MC' 10 0 2 = nI s ∧ cg MC' 10 0 3 = nI (eEd T q s) := by
      unfold m10_nextToken_45
      have c2 : cg (cs M 10 0 3 (nI s)) 10 0 2 = nI s := i3
      have c1 : cg (cs M 10 0 3 (nI s)) 10 0 1 = nI q := e1
      simp only [i3, c1, c2, eI_lt (show s < 2 ^ 31 by omega) (show q < 2 ^ 31 by omega)]
      by_cases hsq : s < q
      · have hb : cg (cs M 10 0 3 (nI s)) 1100 0 s = T s := by rw [cg_cs, if_neg (by omega), i1 1100 0 s rfl]; exact hT s hsq
        have c3 : cg (cs M 10 0 3 (nI s)) 10 0 3 = nI s := rfl
        obtain ⟨e1', e2', e3', e4', e5'⟩ := eEd_ok T hsq
        obtain ⟨e, he⟩ : ∃ e, e = eEd T q s := ⟨_, rfl⟩
        rw [← he] at e1' e2' e3' e4' ⊢
        simp only [hsq, if_true, byte_c (show s < 120 by omega), hb, kind_c, c3, ep1, zbd_s]
        refine eloop (σ := cM) (fun f k N => ∃ MC', m10_nextToken_87 f (eKn (T s)) N = some MC' ∧ eF [11002, 11003] MC MC' ∧ MC'.2 = MC.2 ∧ cg MC' 10 0 2 = nI s ∧ cg MC' 10 0 3 = nI e) (fun k N => eF [11003] M N ∧ N.2 = MC.2 ∧ cg N 10 0 3 = nI k) (m := e) (k0 := s + 1) e1' ?_ ?_ (zfu_gt (by omega)) ⟨eF_cs (eF_cs eF_refl rfl) rfl, i2, rfl⟩
        · rintro f' N ⟨j1, j2, j3⟩
          have d1 : cg N 10 0 1 = nI q := by rw [j1 10 0 1 rfl, e1]
          have d2 : cg N 10 0 2 = nI s := by rw [j1 10 0 2 rfl, i3]
          have hfin : ∃ MC', some N = some MC' ∧ eF [11002, 11003] MC MC' ∧ MC'.2 = MC.2 ∧ cg MC' 10 0 2 = nI s ∧ cg MC' 10 0 3 = nI e := ⟨N, rfl, eF_trans (eF_mono i1 rfl) (eF_mono j1 rfl), j2, d2, j3⟩
          by_cases heq : q ≤ e
          · simp only [m10_nextToken_87, d1, j3, eI_le (show q < 2 ^ 31 by omega) (show e < 2 ^ 31 by omega), heq, zbd_s, zbv_s, zgd_t, Bool.and_true, Bool.true_and, Bool.and_self, if_true, if_false, e_01, eq_self, Bool.false_eq_true]
            exact hfin
          · rcases e4' (by omega) with hk | hk
            · simp only [m10_nextToken_87, d1, j3, eI_le (show q < 2 ^ 31 by omega) (show e < 2 ^ 31 by omega), heq, hk, zbd_s, zbv_s, zgd_t, Bool.and_true, Bool.true_and, Bool.and_self, if_true, if_false, e_01, eq_self, Bool.false_eq_true]
              exact hfin
            · have hbe : cg N 1100 0 e = T e := by rw [j1 1100 0 e rfl, i1 1100 0 e rfl]; exact hT e (by omega)
              simp only [m10_nextToken_87, d1, j3, eI_le (show q < 2 ^ 31 by omega) (show e < 2 ^ 31 by omega), heq, byte_c (show e < 120 by omega), hbe, kind_c, hk, zbd_s, zbv_s, zgd_t, Bool.and_true, Bool.true_and, Bool.and_self, if_true, if_false, e_01, eq_self, Bool.false_eq_true]
              split
              · exact hfin
              · exact hfin
        · rintro f' k N hk1 hk ⟨j1, j2, j3⟩ ih
          have d1 : cg N 10 0 1 = nI q := by rw [j1 10 0 1 rfl, e1]
          have hbe : cg N 1100 0 k = T k := by rw [j1 1100 0 k rfl, i1 1100 0 k rfl]; exact hT k (by omega)
          have hkk := e3' k (by omega) hk
          have hk0 : ¬ eKn (T s) = 0 := fun h0 => by
            have := e5' h0
            omega
          simp only [m10_nextToken_87, d1, j3, eI_le (show q < 2 ^ 31 by omega) (show k < 2 ^ 31 by omega), show (q ≤ k) = False from eq_false (by omega), hk0, byte_c (show k < 120 by omega), hbe, kind_c, hkk, ep1, zbd_s, zbv_s, zgd_t, Bool.and_true, Bool.true_and, Bool.and_self, if_true, if_false, e_01, eq_self, Bool.false_eq_true]
          exact ih _ ⟨eF_cs j1 rfl, j2, rfl⟩
      · simp only [hsq, if_false]
        have hsq' : s = q := by omega
        have he : eEd T q s = s := by unfold eEd; rw [if_pos (by omega)]
        rw [he]
        exact ⟨_, rfl, eF_cs (eF_mono i1 rfl) rfl, i2, i3, rfl⟩
    by_cases hsq : q ≤ s
    · simp only [m10_nextToken_8, e1, i3, eI_le (show q < 2 ^ 31 by omega) (show s < 2 ^ 31 by omega), hsq, if_true]
      exact h45
    · have hbs : cg M 1100 0 s = T s := by rw [i1 1100 0 s rfl]; exact hT s (by omega)
      simp only [m10_nextToken_8, e1, i3, eI_le (show q < 2 ^ 31 by omega) (show s < 2 ^ 31 by omega), hsq, byte_c (show s < 120 by omega), hbs, s4 (by omega), zbd_s, zbv_s, zgd_t, Bool.and_true, Bool.true_and, Bool.and_self, if_true, if_false, e_01, eq_self, Bool.false_eq_true]
      exact h45
  · rintro f k M hk1 hk ⟨i1, i2, i3⟩ ih
    have e1 : cg M 10 0 1 = nI q := by rw [i1 10 0 1 rfl, h1]
    have hbk : cg M 1100 0 k = T k := by rw [i1 1100 0 k rfl]; exact hT k (by omega)
    simp only [m10_nextToken_8, e1, i3, eI_le (show q < 2 ^ 31 by omega) (show k < 2 ^ 31 by omega), show (q ≤ k) = False from eq_false (by omega), byte_c (show k < 120 by omega), hbk, s3 k hk1 hk, ep1, zbd_s, zbv_s, zgd_t, Bool.and_true, Bool.true_and, Bool.and_self, if_true, if_false, e_01, eq_self, Bool.false_eq_true]
    exact ih _ ⟨eF_cs i1 rfl, i2, rfl⟩
