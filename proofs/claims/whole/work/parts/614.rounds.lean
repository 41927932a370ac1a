def eLst (c : Nat → Int32) (o : Option Nat) : Int32 := match o with
  | none => 9
  | some a => c a
theorem lookHome_c {m t b : Nat} {MC : cM} {MR : rM} (hm : m ≤ 10) (g0 : eG0 m t MC MR) (g1 : eG1 m MC MR) (g2 : eG2 m MC MR) (hb : b < m) (s : Int32) (hs : ∀ k, k < m → eb s k = (eLiv MR k && eMate MR b k)) : ∃ MC', m3_lookHome (nI b) s MC = some MC' ∧ eF [402, 403] MC MC' ∧ MC'.2 = MC.2 ∧ cg MC' 402 0 b = eBC (eCnt MR) (eBst (eCand MR b) (eCnt MR) m) ∧ cg MC' 403 0 b = eBI (eBst (eCand MR b) (eCnt MR) m) ∧ ∀ j, j ≠ b → cg MC' 402 0 j = cg MC 402 0 j ∧ cg MC' 403 0 j = cg MC 403 0 j := by
  have hb10 : b < 10 := by omega
  unfold m3_lookHome
  simp only [show (nI b < 0) = False from eq_false (by rw [show (0 : Int32) = nI 0 from rfl, eI_lt (by omega) (by omega)]; omega), show (nI b < 10) = True from eq_true (by rw [show (10 : Int32) = nI 10 from rfl, eI_lt (by omega) (by omega)]; omega), ezin_nI hb10 (show 10 < 2 ^ 31 by decide), ex_nI (show b < 2 ^ 31 by omega), zbd_s, zbv_s, zgd_t, Bool.and_true, Bool.true_and, Bool.and_self, if_true, if_false, e_01, eq_self, Bool.false_eq_true]
  refine eloop (σ := cM) (fun f k M => ∃ MC', m3_lookHome_31 f (nI b) s (eLst (eCnt MR) (eBst (eCand MR b) (eCnt MR) k)) (nI k) M = some MC' ∧ eF [402, 403] MC MC' ∧ MC'.2 = MC.2 ∧ cg MC' 402 0 b = eBC (eCnt MR) (eBst (eCand MR b) (eCnt MR) m) ∧ cg MC' 403 0 b = eBI (eBst (eCand MR b) (eCnt MR) m) ∧ ∀ j, j ≠ b → cg MC' 402 0 j = cg MC 402 0 j ∧ cg MC' 403 0 j = cg MC 403 0 j)
    (fun k M => eF [402, 403] MC M ∧ M.2 = MC.2 ∧ cg M 402 0 b = eBC (eCnt MR) (eBst (eCand MR b) (eCnt MR) k) ∧ cg M 403 0 b = eBI (eBst (eCand MR b) (eCnt MR) k) ∧ ∀ j, j ≠ b → cg M 402 0 j = cg MC 402 0 j ∧ cg M 403 0 j = cg MC 403 0 j) (Nat.zero_le m) ?_ ?_ (zfu_gt (by omega)) ?_
  · rintro f M ⟨hF, h2, hI⟩
    have hm0 : cg M 3 0 4 = nI m := by rw [hF 3 0 4 rfl]; exact g0.1
    simp only [m3_lookHome_31, hm0, eI_le (show m < 2 ^ 31 by omega) (show m < 2 ^ 31 by omega), Nat.le_refl, zbd_s, zbv_s, zgd_t, Bool.and_true, Bool.true_and, Bool.and_self, if_true, if_false, e_01, eq_self, Bool.false_eq_true]
    exact ⟨M, rfl, hF, h2, hI⟩
  · rintro f k M _ hk ⟨hF, h2, i1, i2, i3⟩ ih
    have hk10 : k < 10 := by omega
    have hm0 : cg M 3 0 4 = nI m := by rw [hF 3 0 4 rfl]; exact g0.1
    have g1' : eG1 m M MR := eG1_fr g1 hF (eH_refl (K := [])) rfl rfl
    have g2' : eG2 m M MR := eG2_fr g2 hF (eH_refl (K := [])) rfl rfl
    simp only [m3_lookHome_31, m3_lookHome_99, hm0, eI_le (show m < 2 ^ 31 by omega) (show k < 2 ^ 31 by omega), show (m ≤ k) = False from eq_false (by omega), zshr1_0 (show k < 32 by omega), of_y hk10, blt_t hk10, cnt_c g1' g2' hm hk, ezin_nI hb10 (show 10 < 2 ^ 31 by decide), ex_nI (show b < 2 ^ 31 by omega), ep1, zbd_s, zbv_s, zgd_t, Bool.and_true, Bool.true_and, Bool.and_self, if_true, if_false, e_01, eq_self, Bool.false_eq_true]
    have hself : eMate MR b b = false := by
      unfold eMate; rw [(g1.1 b hb10).2.2.2.2.2.1.2 b (Or.inr rfl)]; rfl
    by_cases c1 : eb s k = false
    · have hcd : eCand MR b k = false := by
        rw [hs k hk] at c1
        unfold eCand
        cases h3 : eLiv MR k <;> cases h4 : eMate MR b k <;> simp_all
      simp only [c1, if_true]
      have := ih M ⟨hF, h2, by rw [eBst_s, hcd]; exact i1, by rw [eBst_s, hcd]; exact i2, i3⟩
      rw [eBst_s, hcd] at this
      simpa using this
    · simp only [c1, if_false]
      have hLM : eLiv MR k = true ∧ eMate MR b k = true := by
        rw [hs k hk] at c1; simpa using c1
      have hne : k ≠ b := by
        intro h; subst h; rw [hself] at hLM; cases hLM.2
      by_cases c2 : eCnt MR k = -1
      · have hcd : eCand MR b k = false := by unfold eCand; simp [c2]
        simp only [c2, if_true]
        have := ih M ⟨hF, h2, by rw [eBst_s, hcd]; exact i1, by rw [eBst_s, hcd]; exact i2, i3⟩
        rw [eBst_s, hcd] at this
        simpa using this
      · simp only [c2, if_false]
        by_cases c3 : eCnt MR k < eLst (eCnt MR) (eBst (eCand MR b) (eCnt MR) k)
        · have hnew : eBst (eCand MR b) (eCnt MR) (k + 1) = some k := by
            rw [eBst_s]
            cases hB : eBst (eCand MR b) (eCnt MR) k with
            | none =>
              rw [hB] at c3; unfold eLst at c3
              have : eCand MR b k = true := by unfold eCand; simp [hLM, hne, c2, c3]
              simp [this]
            | some a =>
              rw [hB] at c3; unfold eLst at c3
              have ha := eBst_ok _ _ _ _ hB
              have : eCnt MR a < 9 := by
                have := ha.2; unfold eCand at this; simp at this; exact this.2.2.2.2
              have : eCand MR b k = true := by unfold eCand; simp [hLM, hne, c2]; lia
              simp [this, c3]
          simp only [c3, if_true]
          have := ih (cs (cs M 402 0 b (eCnt MR k + 1)) 403 0 b (nI k)) ⟨eF_cs (eF_cs hF rfl) rfl, h2, by rw [hnew]; simp [cg_cs, eBC], by rw [hnew]; simp [cg_cs, eBI], fun j hj => by
            have := i3 j hj
            simp only [cg_cs]; grind⟩
          rw [hnew] at this
          exact this
        · have hold : eBst (eCand MR b) (eCnt MR) (k + 1) = eBst (eCand MR b) (eCnt MR) k := by
            rw [eBst_s]
            cases hB : eBst (eCand MR b) (eCnt MR) k with
            | none =>
              rw [hB] at c3; unfold eLst at c3
              have : eCand MR b k = false := by unfold eCand; simp [c3]
              simp [this]
            | some a =>
              rw [hB] at c3; unfold eLst at c3
              simp [c3]
          simp only [c3, if_false]
          have := ih M ⟨hF, h2, by rw [hold]; exact i1, by rw [hold]; exact i2, i3⟩
          rw [hold] at this
          exact this
  · exact ⟨eF_cs (eF_cs eF_refl rfl) rfl, rfl, by simp [cg_cs, eBst, eBC], by simp [cg_cs, eBst, eBI], fun j hj => by simp only [cg_cs]; grind⟩
theorem mend_c {m t : Nat} {MC : cM} {MR : rM} (hm : m ≤ 10) (g0 : eG0 m t MC MR) (g1 : eG1 m MC MR) (g2 : eG2 m MC MR) : ∃ MC', m3_mend MC = some (if eNum m (eChg m MR) = 0 then 0 else 1, MC') ∧ eF [402, 403, 10207, 10208] MC MC' ∧ MC'.2 = MC.2 ∧ (∀ b, 1 ≤ b → b < m → cg MC' 2 b 8 = eNc m MR b ∧ cg MC' 2 b 7 = eNp m MR b) ∧ (∀ b, (b = 0 ∨ m ≤ b) → cg MC' 2 b 8 = cg MC 2 b 8 ∧ cg MC' 2 b 7 = cg MC 2 b 7) := by
  obtain ⟨N, hN⟩ : ∃ N, N = max m 1 := ⟨_, rfl⟩
  unfold m3_mend
  rw [living_c hm g0 g1, zbd_s]
  refine eloop (σ := cM) (fun f k M => ∃ MC', m3_mend_7 f (eSet m (eLiv MR)) (nI k) M = some (if eNum m (eChg m MR) = 0 then 0 else 1, MC') ∧ eF [402, 403, 10207, 10208] MC MC' ∧ MC'.2 = MC.2 ∧ (∀ b, 1 ≤ b → b < m → cg MC' 2 b 8 = eNc m MR b ∧ cg MC' 2 b 7 = eNp m MR b) ∧ (∀ b, (b = 0 ∨ m ≤ b) → cg MC' 2 b 8 = cg MC 2 b 8 ∧ cg MC' 2 b 7 = cg MC 2 b 7))
    (fun k M => eF [402, 403] MC M ∧ M.2 = MC.2 ∧ ∀ b, 1 ≤ b → b < k → cg M 402 0 b = eBC (eCnt MR) (eBst (eCand MR b) (eCnt MR) m) ∧ cg M 403 0 b = eBI (eBst (eCand MR b) (eCnt MR) m)) (m := N) (k0 := 1) (by omega) ?_ ?_ (zfu_gt (by omega)) ?_
  · rintro f M ⟨hF, h2, hI⟩
    have hm0 : cg M 3 0 4 = nI m := by rw [hF 3 0 4 rfl]; exact g0.1
    simp only [m3_mend_7, hm0, eI_le (show m < 2 ^ 31 by omega) (show N < 2 ^ 31 by omega), show (m ≤ N) = True from eq_true (by omega), zbd_s, zbv_s, zgd_t, Bool.and_true, Bool.true_and, Bool.and_self, if_true, if_false, e_01, eq_self, Bool.false_eq_true]
    unfold m3_mend_39
    refine eloop (σ := cM) (fun f k M => ∃ MC', m3_mend_43 f (if decide (eNum k (eChg m MR) ≠ 0) then 1 else 0) (nI k) M = some (if eNum m (eChg m MR) = 0 then 0 else 1, MC') ∧ eF [402, 403, 10207, 10208] MC MC' ∧ MC'.2 = MC.2 ∧ (∀ b, 1 ≤ b → b < m → cg MC' 2 b 8 = eNc m MR b ∧ cg MC' 2 b 7 = eNp m MR b) ∧ (∀ b, (b = 0 ∨ m ≤ b) → cg MC' 2 b 8 = cg MC 2 b 8 ∧ cg MC' 2 b 7 = cg MC 2 b 7))
      (fun k M' => eF [10207, 10208] M M' ∧ M'.2 = MC.2 ∧ (∀ b, 1 ≤ b → b < k → cg M' 2 b 8 = eNc m MR b ∧ cg M' 2 b 7 = eNp m MR b) ∧ (∀ b, (b = 0 ∨ k ≤ b) → cg M' 2 b 8 = cg MC 2 b 8 ∧ cg M' 2 b 7 = cg MC 2 b 7)) (m := N) (k0 := 1) (by omega) ?_ ?_ (zfu_gt (by omega)) ?_
    · rintro f M2 ⟨hF2, h22, hI2, hz⟩
      have hm2 : cg M2 3 0 4 = nI m := by rw [hF2 3 0 4 rfl, hm0]
      have hx : (if decide (eNum N (eChg m MR) ≠ 0) then (1 : Int32) else 0) = if eNum m (eChg m MR) = 0 then 0 else 1 := by
        by_cases hmz : m = 0
        · subst hmz
          have : N = 1 := by omega
          subst this
          simp [eNum, eChg]
        · have : N = m := by omega
          subst this
          by_cases hz : eNum N (eChg N MR) = 0 <;> simp [hz]
      rw [hx]
      simp only [m3_mend_43, hm2, eI_le (show m < 2 ^ 31 by omega) (show N < 2 ^ 31 by omega), show (m ≤ N) = True from eq_true (by omega), zbd_s, zbv_s, zgd_t, Bool.and_true, Bool.true_and, Bool.and_self, if_true, if_false, e_01, eq_self, Bool.false_eq_true]
      refine ⟨M2, ?_, eF_trans (eF_mono hF rfl) (eF_mono hF2 rfl), h22, fun b h1 h2 => hI2 b h1 (by omega), fun b hb => ?_⟩
      · split <;> rfl
      · by_cases hb0 : b = 0
        · exact hz b (Or.inl hb0)
        · exact hz b (Or.inr (by omega))
    · rintro f k M2 hk1 hk ⟨hF2, h22, hI2, hz⟩ ih
      have hkm : k < m := by omega
      have hk10 : k < 10 := by omega
      have hm2 : cg M2 3 0 4 = nI m := by rw [hF2 3 0 4 rfl, hm0]
      have e1 : cg M2 402 0 k = eBC (eCnt MR) (eBst (eCand MR k) (eCnt MR) m) := by rw [hF2 402 0 k rfl]; exact (hI k hk1 hk).1
      have e2 : cg M2 403 0 k = eBI (eBst (eCand MR k) (eCnt MR) m) := by rw [hF2 403 0 k rfl]; exact (hI k hk1 hk).2
      have e3 : cg M2 2 k 8 = rg MR 1308 0 k := by rw [(hz k (Or.inr (Nat.le_refl _))).1]; exact (g2.1 k hkm).2.1
      have e4 : cg M2 2 k 7 = rg MR 1309 0 k := by rw [(hz k (Or.inr (Nat.le_refl _))).2]; exact (g2.1 k hkm).1
      have g1' : eG1 m M2 MR := eG1_fr g1 (eF_trans (eF_mono hF rfl : eF [402, 403, 10207, 10208] MC M) (eF_mono hF2 rfl)) (eH_refl (K := [])) rfl rfl
      simp only [m3_mend_43, m3_mend_127, m3_mend_103, m3_mend_105, hm2, eI_le (show m < 2 ^ 31 by omega) (show k < 2 ^ 31 by omega), show (m ≤ k) = False from eq_false (by omega), show (10 ≤ nI k) = False from eq_false (by rw [show (10 : Int32) = nI 10 from rfl, eI_le (by omega) (by omega)]; omega), of_y hk10, blt_t hk10, dead_c g1' hk10, ezin_nI hk10 (show 10 < 2 ^ 31 by decide), ex_nI (show k < 2 ^ 31 by omega), e1, e2, e3, e4, ep1, zbd_s, zbv_s, zgd_t, Bool.and_true, Bool.true_and, Bool.and_self, if_true, if_false, e_01, eq_self, Bool.false_eq_true]
      by_cases hL : rg MR 1302 0 k ≤ 0
      · have hLv : eLiv MR k = false := by unfold eLiv; simp [hL]
        have hch : eChg m MR k = false := by unfold eChg; simp [hLv]
        have := ih M2 ⟨hF2, h22, fun b h1 h2 => by
          by_cases hbk : b = k
          · subst hbk; rw [e3, e4]; unfold eNc eNp; simp [hLv]
          · exact hI2 b h1 (by omega), fun b hb => hz b (by omega)⟩
        simp only [hL, if_true]
        rw [eNum_s, hch] at this
        simpa using this
      · have hLv : eLiv MR k = true := by unfold eLiv; simp [hL]
        have q1 : eBC (eCnt MR) (eBst (eCand MR k) (eCnt MR) m) = eNc m MR k := by unfold eNc; simp [hLv]
        have q2 : eBI (eBst (eCand MR k) (eCnt MR) m) = eNp m MR k := by unfold eNp; simp [hLv]
        rw [q1, q2]
        have hr : cg (cs M2 2 k 8 (eNc m MR k)) 403 0 k = eNp m MR k := by rw [← q2, ← e2]; rfl
        rw [hr]
        have := ih (cs (cs M2 2 k 8 (eNc m MR k)) 2 k 7 (eNp m MR k)) ⟨eF_cs (eF_cs hF2 rfl) rfl, h22, fun b h1 h2 => by
          have := hI2 b h1
          simp only [cg_cs]
          grind, fun b hb => by
          have := hz b (by omega)
          simp only [cg_cs]
          grind⟩
        rw [eNum_s] at this
        simp only [hL, if_false, if_true]
        have hch : eChg m MR k = (!(decide (eNc m MR k = rg MR 1308 0 k)) || !(decide (eNp m MR k = rg MR 1309 0 k))) := by unfold eChg; simp [hLv, hk1]
        rw [hch] at this
        simp only [eq_comm (a := rg MR 1308 0 k), eq_comm (a := rg MR 1309 0 k)]
        by_cases c1 : eNc m MR k = rg MR 1308 0 k <;> by_cases c2 : eNp m MR k = rg MR 1309 0 k <;> simp [c1, c2] at this ⊢ <;> exact this
    · exact ⟨eF_refl, h2, fun b h1 h2 => by omega, fun b _ => ⟨hF 2 b 8 rfl, hF 2 b 7 rfl⟩⟩
  · rintro f k M hk1 hk ⟨hF, h2, hI⟩ ih
    have hkm : k < m := by omega
    have hk10 : k < 10 := by omega
    have hm0 : cg M 3 0 4 = nI m := by rw [hF 3 0 4 rfl]; exact g0.1
    have g0' : eG0 m t M MR := eG0_fr g0 hF (eH_refl (K := [])) rfl rfl
    have g1' : eG1 m M MR := eG1_fr g1 hF (eH_refl (K := [])) rfl rfl
    have g2' : eG2 m M MR := eG2_fr g2 hF (eH_refl (K := [])) rfl rfl
    obtain ⟨M', hl, hF', h2', l1, l2, l3⟩ := lookHome_c hm g0' g1' g2' hkm (eSet m (eLiv MR) &&& eSet m (eMate MR k)) (fun j hj => by rw [eb_and, eb_set (by omega), eb_set (by omega)]; simp [hj])
    simp only [m3_mend_7, hm0, eI_le (show m < 2 ^ 31 by omega) (show k < 2 ^ 31 by omega), show (m ≤ k) = False from eq_false (by omega), show (10 ≤ nI k) = False from eq_false (by rw [show (10 : Int32) = nI 10 from rfl, eI_le (by omega) (by omega)]; omega), friends_c hm g0' g1' hk10, hl, ep1, zbd_s, zbv_s, zgd_t, Bool.and_true, Bool.true_and, Bool.and_self, if_true, if_false, e_01, eq_self, Bool.false_eq_true]
    refine ih M' ⟨eF_trans hF hF', by rw [h2', h2], fun b h1 h2 => ?_⟩
    by_cases hbk : b = k
    · subst hbk; exact ⟨l1, l2⟩
    · rw [(l3 b hbk).1, (l3 b hbk).2]; exact hI b h1 (by omega)
  · exact ⟨eF_refl, rfl, fun b h1 h2 => by omega⟩
