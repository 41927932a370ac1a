theorem o_fault {n : Nat} {MC : cM} {MR : rM} (h : eRel n MC MR) : eO n (m11_fault MC) (m12_fault MR) := by
  obtain ⟨m, t, hm, ht, g0, g1, g2, g3, g4, g5, g6, g7, g8, g9⟩ := h
  unfold m11_fault m12_fault
  rcases read_e g4 with ⟨s, MC', MR', hs, h1, h2, h3, h4⟩ | ⟨MC', MR', a, v, c, h1, h2, h4, -⟩
  · rw [h1, h2, zbd_s, zbd_s, if_pos rfl, h3]
    exact eO_fin rfl (eRel_fr hm ht g0 g1 g2 g3 g4 g5 g6 g7 g8 g9 h4.1 h4.2.2 h4.2.1 rfl rfl)
  · rw [h1, h2, zbd_s, zbd_s, if_neg (by decide)]
    exact eO_fin rfl (eRel_fr hm ht g0 g1 g2 g3 g4 g5 g6 g7 g8 g9 h4.1 h4.2.2 h4.2.1 rfl rfl)
/-! a row's place taken out -/
theorem drop_c {b q x : Nat} {MC : cM} (hb : b < 10) (hq : q ≤ 4) (hx : x < q) (h2 : cg MC 8 b 2 = nI q) (hP : ∀ k, k < 4 → cp MC 901 b k < 51) : ∃ MC', m8_drop b (nI x) MC = some MC' ∧ eF [10802, 900] MC MC' ∧ (∀ k i s, ¬ (k = 901 ∧ i = b) → cp MC' k i s = cp MC k i s) ∧ (∀ i, i ≠ b → cg MC' 8 i 2 = cg MC 8 i 2 ∧ ∀ k, cg MC' 900 i k = cg MC 900 i k) ∧ cg MC' 8 b 2 = nI (q - 1) ∧ (∀ k, k < 4 → cg MC' 900 b k = if x ≤ k ∧ k + 1 < q then cg MC 900 b (k + 1) else cg MC 900 b k) ∧ (∀ k, k < 4 → cp MC' 901 b k = if k + 1 = q then cp MC 901 b x else if x ≤ k ∧ k + 1 < q then cp MC 901 b (k + 1) else cp MC 901 b k) := by
  unfold m8_drop
  have c0 : ¬ nI x < 0 := fun h => by rw [show (0 : Int32) = nI 0 from rfl, eI_lt (by omega) (by omega)] at h; omega
  rw [if_neg c0]
  simp only [blt_t hb, h2, eI_le (show q < 2 ^ 31 by omega) (show x < 2 ^ 31 by omega), show (q ≤ x) = False from eq_false (by omega), show (nI q ≤ 4) = True from eq_true (by rw [show (4 : Int32) = nI 4 from rfl, eI_le (by omega) (by omega)]; omega), ezin_nI (show x < 4 by omega) (show 4 < 2 ^ 31 by decide), ex_nI (show x < 2 ^ 31 by omega), zbd_s, zbv_s, zgd_t, Bool.and_true, Bool.true_and, Bool.and_self, if_true, if_false, e_01, eq_self, Bool.false_eq_true]
  obtain ⟨p, hp⟩ : ∃ p, p = cp MC 901 b x := ⟨_, rfl⟩
  have hp51 : p < 51 := by rw [hp]; exact hP x (by omega)
  rw [← hp]
  refine eloop (σ := cM) (fun f k M => ∃ MC', m8_drop_30 f b p (nI k) M = some MC' ∧ eF [10802, 900] MC MC' ∧ (∀ k i s, ¬ (k = 901 ∧ i = b) → cp MC' k i s = cp MC k i s) ∧ (∀ i, i ≠ b → cg MC' 8 i 2 = cg MC 8 i 2 ∧ ∀ k, cg MC' 900 i k = cg MC 900 i k) ∧ cg MC' 8 b 2 = nI (q - 1) ∧ (∀ k, k < 4 → cg MC' 900 b k = if x ≤ k ∧ k + 1 < q then cg MC 900 b (k + 1) else cg MC 900 b k) ∧ (∀ k, k < 4 → cp MC' 901 b k = if k + 1 = q then p else if x ≤ k ∧ k + 1 < q then cp MC 901 b (k + 1) else cp MC 901 b k)) (fun j M => eF [900] MC M ∧ (∀ k i s, ¬ (k = 901 ∧ i = b) → cp M k i s = cp MC k i s) ∧ (∀ i, i ≠ b → ∀ k, cg M 900 i k = cg MC 900 i k) ∧ (∀ k, k < 4 → cg M 900 b k = if x ≤ k ∧ k < j then cg MC 900 b (k + 1) else cg MC 900 b k) ∧ (∀ k, k < 4 → cp M 901 b k = if x ≤ k ∧ k < j then cp MC 901 b (k + 1) else cp MC 901 b k)) (m := q - 1) (k0 := x) (by omega) ?_ ?_ (zfu_gt (by omega)) ⟨eF_refl, fun _ _ _ _ => rfl, fun _ _ _ => rfl, fun k hk => by rw [if_neg (by omega)], fun k hk => by rw [if_neg (by omega)]⟩
  · rintro f M ⟨i1, i2, i3, i4, i5⟩
    have e2 : cg M 8 b 2 = nI q := by rw [i1 8 b 2 rfl, h2]
    have hs : nI q - 1 = nI (q - 1) := by rw [show (1 : Int32) = nI 1 from rfl, nI_sub (by omega)]
    have e2' : cg (cs M 8 b 2 (nI (q - 1))) 8 b 2 = nI (q - 1) := by rw [cg_cs, if_pos ⟨rfl, rfl, rfl⟩]
    refine ⟨cps (cs M 8 b 2 (nI (q - 1))) 901 b (q - 1) p, ?_, ?_, ?_, ?_, ?_, ?_, ?_⟩
    · rw [m8_drop_30]
      simp only [blt_t hb, e2, ep1, hs, e2', show q - 1 + 1 = q by omega, eI_le (show q < 2 ^ 31 by omega) (show q < 2 ^ 31 by omega), show (q ≤ q) = True from eq_true (by omega), ezin_nI (show q - 1 < 4 by omega) (show 4 < 2 ^ 31 by decide), ex_nI (show q - 1 < 2 ^ 31 by omega), blt_t hp51, zbd_s, zbv_s, zgd_t, Bool.and_true, Bool.true_and, Bool.and_self, if_true, if_false, e_01, eq_self, Bool.false_eq_true]
    · intro k i s hk
      rw [cg_cps, cg_cs, if_neg ?_]
      · exact i1 k i s (by
          have := hk
          simp only [List.contains_cons, List.contains_nil, Bool.or_false, Bool.or_eq_false_iff] at this ⊢
          exact this.2)
      · rintro ⟨rfl, rfl, rfl⟩
        cases hk
    · intro k i s hk
      rw [cp_cps, if_neg (fun h => hk ⟨h.1, h.2.1⟩), cp_cs]
      exact i2 k i s hk
    · intro i hi
      refine ⟨?_, fun k => ?_⟩
      · rw [cg_cps, cg_cs, if_neg (fun h => hi h.2.1)]; exact i1 8 i 2 rfl
      · rw [cg_cps, cg_cs, if_neg (by omega)]; exact i3 i hi k
    · rw [cg_cps]; exact e2'
    · intro k hk
      rw [cg_cps, cg_cs, if_neg (by omega), i4 k hk]
      by_cases hc : x ≤ k ∧ k < q - 1
      · rw [if_pos hc, if_pos (by omega)]
      · rw [if_neg hc, if_neg (by omega)]
    · intro k hk
      rw [cp_cps, cp_cs, i5 k hk]
      by_cases hc : k + 1 = q
      · rw [if_pos ⟨rfl, rfl, by omega⟩, if_pos hc]
      · rw [if_neg (fun h => hc (by omega)), if_neg hc]
        by_cases hc : x ≤ k ∧ k < q - 1
        · rw [if_pos hc, if_pos (by omega)]
        · rw [if_neg hc, if_neg (by omega)]
  · rintro f j M hj1 hj ⟨i1, i2, i3, i4, i5⟩ ih
    have e2 : cg M 8 b 2 = nI q := by rw [i1 8 b 2 rfl, h2]
    have hpj : cp M 901 b (j + 1) = cp MC 901 b (j + 1) := by rw [i5 (j + 1) (by omega), if_neg (by omega)]
    have hvj : cg M 900 b (j + 1) = cg MC 900 b (j + 1) := by rw [i4 (j + 1) (by omega), if_neg (by omega)]
    rw [m8_drop_30]
    simp only [blt_t hb, e2, ep1, eI_le (show q < 2 ^ 31 by omega) (show j + 1 < 2 ^ 31 by omega), show (q ≤ j + 1) = False from eq_false (by omega), ezin_nI (show j + 1 < 4 by omega) (show 4 < 2 ^ 31 by decide), ex_nI (show j + 1 < 2 ^ 31 by omega), ezin_nI (show j < 4 by omega) (show 4 < 2 ^ 31 by decide), ex_nI (show j < 2 ^ 31 by omega), cp_cs, hpj, hvj, blt_t (hP (j + 1) (by omega)), zbd_s, zbv_s, zgd_t, Bool.and_true, Bool.true_and, Bool.and_self, if_true, if_false, e_01, eq_self, Bool.false_eq_true]
    refine ih _ ⟨?_, ?_, ?_, ?_, ?_⟩
    · intro k i s hk
      rw [cg_cps, cg_cs, if_neg ?_]
      · exact i1 k i s hk
      · rintro ⟨rfl, rfl, rfl⟩
        cases hk
    · intro k i s hk
      rw [cp_cps, if_neg (fun h => hk ⟨h.1, h.2.1⟩), cp_cs]
      exact i2 k i s hk
    · intro i hi k
      rw [cg_cps, cg_cs, if_neg (fun h => hi h.2.1)]; exact i3 i hi k
    · intro k hk
      rw [cg_cps, cg_cs]
      by_cases hc : k = j
      · subst hc
        rw [if_pos ⟨rfl, rfl, rfl⟩, if_pos (by omega)]
      · rw [if_neg (fun h => hc h.2.2), i4 k hk]
        by_cases hc2 : x ≤ k ∧ k < j
        · rw [if_pos hc2, if_pos (by omega)]
        · rw [if_neg hc2, if_neg (by omega)]
    · intro k hk
      rw [cp_cps]
      by_cases hc : k = j
      · subst hc
        rw [if_pos ⟨rfl, rfl, rfl⟩, if_pos (by omega)]
      · rw [if_neg (fun h => hc h.2.2), cp_cs, i5 k hk]
        by_cases hc2 : x ≤ k ∧ k < j
        · rw [if_pos hc2, if_pos (by omega)]
        · rw [if_neg hc2, if_neg (by omega)]
