theorem eG2_round {m : Nat} {MC MC' : cM} {MR MR' : rM} (hm : m ≤ 10) (g1 : eG1 m MC MR) (g2 : eG2 m MC MR) (c1 : ∀ b, 1 ≤ b → b < m → cg MC' 2 b 8 = eNc m MR b ∧ cg MC' 2 b 7 = eNp m MR b) (c2 : ∀ b, (b = 0 ∨ m ≤ b) → cg MC' 2 b 8 = cg MC 2 b 8 ∧ cg MC' 2 b 7 = cg MC 2 b 7) (r1 : ∀ b, 1 ≤ b → b < m → rg MR' 1308 0 b = eNc m MR b ∧ rg MR' 1309 0 b = eNp m MR b) (r2 : rg MR' 1308 0 0 = rg MR 1308 0 0) (r3 : rg MR' 1309 0 0 = rg MR 1309 0 0) : eG2 m MC' MR' := by
  refine ⟨fun b hb => ?_, fun b hb h => by rw [(c2 b (Or.inr h)).1, (c2 b (Or.inr h)).2]; exact g2.2 b hb h⟩
  have hold := g2.1 b hb
  by_cases hb0 : b = 0
  · subst hb0
    rw [(c2 0 (Or.inl rfl)).1, (c2 0 (Or.inl rfl)).2, r2, r3]; exact hold
  rw [(c1 b (by omega) hb).1, (c1 b (by omega) hb).2, (r1 b (by omega) hb).1, (r1 b (by omega) hb).2]
  refine ⟨rfl, rfl, ?_⟩
  unfold eNc eNp
  cases hL : eLiv MR b with
  | false => simp only [Bool.false_eq_true, if_false]; exact hold.2.2
  | true =>
    simp only [if_true]
    cases hB : eBst (eCand MR b) (eCnt MR) m with
    | none => exact .inl ⟨rfl, rfl⟩
    | some a =>
      obtain ⟨h1, h2⟩ := eBst_ok _ _ _ _ hB
      unfold eCand at h2
      simp only [Bool.and_eq_true, Bool.not_eq_true', decide_eq_false_iff_not, decide_eq_true_eq] at h2
      obtain ⟨h3, h4, h5, h6, h7⟩ := h2
      have h8 : 0 ≤ eCnt MR a := by
        unfold eCnt at h5 ⊢
        split
        · rename_i h0; subst h0
          unfold eLiv at h4
          have : ¬ rg MR 1302 0 0 ≤ 0 := by simpa using h4
          simp [this]
        · rename_i h0
          rw [if_neg h0] at h5
          rcases (g2.1 a h1).2.2 with h9 | h9
          · exact absurd h9.2 h5
          · lia
      refine .inr ⟨by omega, ?_, ?_, a, h1, h3, rfl⟩
      · show 1 ≤ eCnt MR a + 1
        lia
      · show eCnt MR a + 1 ≤ 9
        lia
def eR (n m t : Nat) (MC : cM) (MR : rM) : Prop := m ≤ 10 ∧ t ≤ 9000 ∧ eG0 m t MC MR ∧ eG1 m MC MR ∧ eG2 m MC MR ∧ eG3 m MC MR ∧ eG4 MC MR ∧ eG5 MC MR ∧ eG6 m MC MR ∧ eG7 n m MC MR ∧ eG8 MC MR ∧ eG9 MC MR
theorem o_rounds {n : Nat} {MC : cM} {MR : rM} (h : eRel n MC MR) (x1 : Int32) : eO n (m11_rounds x1 MC) (m12_rounds x1 MR) := by
  obtain ⟨m, t, hm, ht, g0, g1, g2, g3, g4, g5, g6, g7, g8, g9⟩ := h
  unfold m11_rounds m12_rounds
  rcases (Classical.em ((1 : Int32) ≤ x1 ∧ x1 ≤ 20)).symm with h2 | h2
  · simp only [out_y h2, in_n h2, zbd_s, zbv_s, zgd_t, Bool.and_true, Bool.true_and, Bool.and_self, if_true, if_false, e_01, eq_self, Bool.false_eq_true]
    exact eO_same ⟨m, t, hm, ht, g0, g1, g2, g3, g4, g5, g6, g7, g8, g9⟩
  simp only [out_n h2.1 h2.2, in_y h2.1 h2.2, zbd_s, zbv_s, zgd_t, Bool.and_true, Bool.true_and, Bool.and_self, if_true, if_false, e_01, eq_self, Bool.false_eq_true]
  obtain ⟨q, hq, rfl⟩ := eI_ofl (b := 20) (by lia) h2.2 (by decide)
  refine eloop (σ := Int32 × cM × rM) (fun f k s => eO n (m11_rounds_17 f (nI q) s.1 (nI k) s.2.1) (m12_rounds_17 f (nI q) s.1 (nI k) s.2.2)) (fun k s => eR n m t s.2.1 s.2.2) (m := q) (k0 := 0) (s := (0, MC, MR)) (by omega) ?_ ?_ (zfu_gt (by omega)) ⟨hm, ht, g0, g1, g2, g3, g4, g5, g6, g7, g8, g9⟩
  · rintro f ⟨r, MC, MR⟩ hI
    simp only [m11_rounds_17, m12_rounds_17, eI_le (show q < 2 ^ 31 by omega) (show q < 2 ^ 31 by omega), Nat.le_refl, zbd_s, zbv_s, zgd_t, Bool.and_true, Bool.true_and, Bool.and_self, if_true, if_false, e_01, eq_self, Bool.false_eq_true]
    exact eO_same ⟨m, t, hI⟩
  · rintro f k ⟨r, MC, MR⟩ _ hk ⟨hm, ht, g0, g1, g2, g3, g4, g5, g6, g7, g8, g9⟩ ih
    obtain ⟨MC', e1, e2, e3, e4, e5⟩ := mend_c hm g0 g1 g2
    obtain ⟨MR', f1, f2, f3, f4, f5⟩ := goRound_e MR hm g0.2.1
    have hP : ∀ k i s, cp MC' k i s = cp MC k i s := by intro k i s; unfold cp; rw [e3]
    have hR : eR n m t MC' MR' := ⟨hm, ht, eG0_fr g0 e2 f2 rfl rfl, eG1_fr g1 e2 f2 rfl rfl, eG2_round hm g1 g2 e4 e5 f3 f4 f5, eG3_fr g3 e2 f2 (fun b k => hP 901 b k) rfl rfl, eG4_fr g4 e2 f2 rfl rfl, eG5_fr g5 e2 f2 rfl rfl, eG6_fr g6 e2 f2 rfl rfl, eG7_fr g7 e2 f2 rfl rfl, eG8_fr g8 e2 f2 ⟨hP 4 0 8, hP 4 0 9⟩ rfl rfl, eG9_fr g9 e2 f2 rfl rfl⟩
    simp only [m11_rounds_17, m12_rounds_17, m11_rounds_35, m12_rounds_35, eI_le (show q < 2 ^ 31 by omega) (show k < 2 ^ 31 by omega), show (q ≤ k) = False from eq_false (by omega), e1, f1, ep1, zbd_s, zbv_s, zgd_t, Bool.and_true, Bool.true_and, Bool.and_self, if_true, if_false, e_01, eq_self, Bool.false_eq_true]
    by_cases hz : eNum m (eChg m MR) = 0
    · simp only [hz, zbd_s, zbv_s, zgd_t, Bool.and_true, Bool.true_and, Bool.and_self, if_true, if_false, e_01, eq_self, Bool.false_eq_true, Int32.add_zero]
      exact ih (r, MC', MR') hR
    · simp only [hz, zbd_s, zbv_s, zgd_t, Bool.and_true, Bool.true_and, Bool.and_self, if_true, if_false, e_01, eq_self, Bool.false_eq_true]
      exact ih (r + 1, MC', MR') hR
