theorem gr171_e {m b : Nat} (hm : m ≤ 10) (hb1 : 1 ≤ b) (hb : b < m) (k4 : Int32 → Int32 → rM → Option (Int32 × rM)) (M0 M : rM) (hF : eH [1310, 1311] M0 M) (hL : eLiv M0 b = true) (c : Bool) :
    m12_goRound_171 k4 (if c then 1 else 0) (nI b) (eNp m M0 b) (nI b) (eNc m M0 b) M = k4 (if c || eChg m M0 b then 1 else 0) (nI (b + 1)) (rs (rs M 1310 0 b (eNc m M0 b)) 1311 0 b (eNp m M0 b)) := by
  have hb10 : b < 10 := by omega
  have r1 : rg (rs (rs M 1310 0 b (eNc m M0 b)) 1311 0 b (eNp m M0 b)) 1310 0 b = eNc m M0 b := by simp [rg_rs]
  have r2 : rg (rs (rs M 1310 0 b (eNc m M0 b)) 1311 0 b (eNp m M0 b)) 1308 0 b = rg M0 1308 0 b := by simp [rg_rs]; exact hF 1308 0 b rfl
  have r3 : rg (rs (rs M 1310 0 b (eNc m M0 b)) 1311 0 b (eNp m M0 b)) 1311 0 b = eNp m M0 b := by simp [rg_rs]
  have r4 : rg (rs (rs M 1310 0 b (eNc m M0 b)) 1311 0 b (eNp m M0 b)) 1309 0 b = rg M0 1309 0 b := by simp [rg_rs]; exact hF 1309 0 b rfl
  unfold m12_goRound_171 m12_goRound_218 m12_goRound_219
  simp only [ezin_nI hb10 (show 10 < 2 ^ 31 by decide), ex_nI (show b < 2 ^ 31 by omega), r1, r2, r3, r4, ep1, ei_1, eChg, hL, hb1, zbd_s, zbv_s, zgd_t, Bool.and_true, Bool.true_and, Bool.and_self, if_true, if_false, e_01, eq_self, Bool.false_eq_true]
  cases c <;> by_cases c1 : eNc m M0 b = rg M0 1308 0 b <;> by_cases c2 : eNp m M0 b = rg M0 1309 0 b <;> simp [c1, c2]
theorem goRound_e {m : Nat} (M0 : rM) (hm : m ≤ 10) (h0 : rg M0 12 0 0 = nI m) : ∃ M', m12_goRound M0 = some (if eNum m (eChg m M0) = 0 then 0 else 1, M') ∧ eH [1308, 1309, 1310, 1311] M0 M' ∧ (∀ b, 1 ≤ b → b < m → rg M' 1308 0 b = eNc m M0 b ∧ rg M' 1309 0 b = eNp m M0 b) ∧ rg M' 1308 0 0 = rg M0 1308 0 0 ∧ rg M' 1309 0 0 = rg M0 1309 0 0 := by
  unfold m12_goRound
  have hN : ∃ N, N = max m 1 := ⟨_, rfl⟩
  obtain ⟨N, hN⟩ := hN
  refine eloop (σ := rM) (fun f k M => ∃ M', m12_goRound_4 f (if decide (eNum k (eChg m M0) ≠ 0) then 1 else 0) (nI k) M = some (if eNum m (eChg m M0) = 0 then 0 else 1, M') ∧ eH [1308, 1309, 1310, 1311] M0 M' ∧ (∀ b, 1 ≤ b → b < m → rg M' 1308 0 b = eNc m M0 b ∧ rg M' 1309 0 b = eNp m M0 b) ∧ rg M' 1308 0 0 = rg M0 1308 0 0 ∧ rg M' 1309 0 0 = rg M0 1309 0 0)
    (fun k M => eH [1310, 1311] M0 M ∧ ∀ b, 1 ≤ b → b < k → rg M 1310 0 b = eNc m M0 b ∧ rg M 1311 0 b = eNp m M0 b) (m := N) (k0 := 1) (by omega) ?_ ?_ (zfu_gt (by omega)) ?_
  · rintro f M ⟨hF, hI⟩
    have hm0 : rg M 12 0 0 = nI m := by rw [hF 12 0 0 rfl, h0]
    simp only [m12_goRound_4, hm0, eI_le (show m < 2 ^ 31 by omega) (show N < 2 ^ 31 by omega), show (m ≤ N) = True from eq_true (by omega), zbd_s, zbv_s, zgd_t, Bool.and_true, Bool.true_and, Bool.and_self, if_true, if_false, e_01, eq_self, Bool.false_eq_true]
    have hx : (if decide (eNum N (eChg m M0) ≠ 0) then (1 : Int32) else 0) = if eNum m (eChg m M0) = 0 then 0 else 1 := by
      by_cases hmz : m = 0
      · subst hmz
        have : N = 1 := by omega
        subst this
        simp [eNum, eChg]
      · have : N = m := by omega
        subst this
        by_cases hz : eNum N (eChg N M0) = 0 <;> simp [hz]
    rw [hx]
    refine eloop (σ := rM) (fun f k M => ∃ M', m12_goRound_227 f (if eNum m (eChg m M0) = 0 then 0 else 1) (nI k) M = some (if eNum m (eChg m M0) = 0 then 0 else 1, M') ∧ eH [1308, 1309, 1310, 1311] M0 M' ∧ (∀ b, 1 ≤ b → b < m → rg M' 1308 0 b = eNc m M0 b ∧ rg M' 1309 0 b = eNp m M0 b) ∧ rg M' 1308 0 0 = rg M0 1308 0 0 ∧ rg M' 1309 0 0 = rg M0 1309 0 0)
      (fun k M' => eH [1308, 1309] M M' ∧ (∀ b, 1 ≤ b → b < k → rg M' 1308 0 b = eNc m M0 b ∧ rg M' 1309 0 b = eNp m M0 b) ∧ rg M' 1308 0 0 = rg M0 1308 0 0 ∧ rg M' 1309 0 0 = rg M0 1309 0 0) (m := N) (k0 := 1) (by omega) ?_ ?_ (zfu_gt (by omega)) ?_
    · rintro f M2 ⟨hF2, hI2, hz⟩
      have hm2 : rg M2 12 0 0 = nI m := by rw [hF2 12 0 0 rfl, hm0]
      simp only [m12_goRound_227, hm2, eI_le (show m < 2 ^ 31 by omega) (show N < 2 ^ 31 by omega), show (m ≤ N) = True from eq_true (by omega), zbd_s, zbv_s, zgd_t, Bool.and_true, Bool.true_and, Bool.and_self, if_true, if_false, e_01, eq_self, Bool.false_eq_true]
      refine ⟨M2, ?_, ?_, fun b h1 h2 => hI2 b h1 (by omega), hz⟩
      · split <;> rfl
      · exact eH_trans (eH_mono hF rfl) (eH_mono hF2 rfl)
    · rintro f k M2 hk1 hk ⟨hF2, hI2, hz⟩ ih
      have hk10 : k < 10 := by omega
      have hm2 : rg M2 12 0 0 = nI m := by rw [hF2 12 0 0 rfl, hm0]
      simp only [m12_goRound_227, hm2, eI_le (show m < 2 ^ 31 by omega) (show k < 2 ^ 31 by omega), show (m ≤ k) = False from eq_false (by omega), ezin_nI hk10 (show 10 < 2 ^ 31 by decide), ex_nI (show k < 2 ^ 31 by omega), ep1, zbd_s, zbv_s, zgd_t, Bool.and_true, Bool.true_and, Bool.and_self, if_true, if_false, e_01, eq_self, Bool.false_eq_true]
      refine ih _ ⟨eH_rs (eH_rs hF2 rfl) rfl, ?_, ?_, ?_⟩
      · intro b h1 h2
        have e1 : rg M2 1310 0 k = eNc m M0 k := by rw [hF2 1310 0 k rfl]; exact (hI k hk1 hk).1
        have e2 : rg M2 1311 0 k = eNp m M0 k := by rw [hF2 1311 0 k rfl]; exact (hI k hk1 hk).2
        have := hI2 b h1
        simp only [rg_rs]
        grind
      · simp only [rg_rs]; grind
      · simp only [rg_rs]; grind
    · exact ⟨eH_refl, fun b h1 h2 => by omega, hF 1308 0 0 rfl, hF 1309 0 0 rfl⟩
  · rintro f k M hk1 hk ⟨hF, hI⟩ ih
    have hkm : k < m := by omega
    have hk10 : k < 10 := by omega
    have hm0 : rg M 12 0 0 = nI m := by rw [hF 12 0 0 rfl, h0]
    have q8 : rg M 1308 0 k = rg M0 1308 0 k := hF 1308 0 k rfl
    have q9 : rg M 1309 0 k = rg M0 1309 0 k := hF 1309 0 k rfl
    have q2 : rg M 1302 0 k = rg M0 1302 0 k := hF 1302 0 k rfl
    simp only [m12_goRound_4, m12_goRound_219, hm0, eI_le (show m < 2 ^ 31 by omega) (show k < 2 ^ 31 by omega), show (m ≤ k) = False from eq_false (by omega), ezin_nI hk10 (show 10 < 2 ^ 31 by decide), ex_nI (show k < 2 ^ 31 by omega), ep1, zbd_s, zbv_s, zgd_t, Bool.and_true, Bool.true_and, Bool.and_self, if_true, if_false, e_01, eq_self, Bool.false_eq_true]
    obtain ⟨v1, hv1⟩ : ∃ v, v = rg M 1308 0 k := ⟨_, rfl⟩
    obtain ⟨v2, hv2⟩ : ∃ v, v = rg (rs M 1310 0 k (rg M 1308 0 k)) 1309 0 k := ⟨_, rfl⟩
    obtain ⟨M1, hM1⟩ : ∃ X, X = rs (rs M 1310 0 k (rg M 1308 0 k)) 1311 0 k (rg (rs M 1310 0 k (rg M 1308 0 k)) 1309 0 k) := ⟨_, rfl⟩
    rw [← hM1]
    have hF1 : eH [1310, 1311] M0 M1 := by rw [hM1]; exact eH_rs (eH_rs hF rfl) rfl
    have hI1 : ∀ b, 1 ≤ b → b < k → rg M1 1310 0 b = eNc m M0 b ∧ rg M1 1311 0 b = eNp m M0 b := by
      intro b h1 h2
      rw [hM1]; simp only [rg_rs]
      have := hI b h1 h2
      grind
    have hK1 : rg M1 1310 0 k = rg M0 1308 0 k ∧ rg M1 1311 0 k = rg M0 1309 0 k := by
      rw [hM1]; simp only [rg_rs]; grind
    have qq : rg M1 1302 0 k = rg M0 1302 0 k := hF1 1302 0 k rfl
    rw [qq]
    by_cases hL : rg M0 1302 0 k ≤ 0
    · have hLv : eLiv M0 k = false := by unfold eLiv; simp [hL]
      have hch : eChg m M0 k = false := by unfold eChg; simp [hLv]
      have := ih M1 ⟨hF1, fun b h1 h2 => by
        by_cases hbk : b = k
        · subst hbk; rw [hK1.1, hK1.2]; unfold eNc eNp; simp [hLv]
        · exact hI1 b h1 (by omega)⟩
      simp only [hL, if_true]
      rw [eNum_s, hch] at this
      simpa using this
    · have hLv : eLiv M0 k = true := by unfold eLiv; simp [hL]
      have hm1 : rg M1 12 0 0 = nI m := by rw [hF1 12 0 0 rfl, h0]
      have hCt : eCnt M1 = eCnt M0 := by
        funext j; unfold eCnt
        rw [hF1 1302 0 0 rfl, hF1 1308 0 j rfl]
      have hCd : eCand M1 k = eCand M0 k := by
        funext j; unfold eCand eLiv eMate
        rw [hCt, hF1 1302 0 j rfl, hF1 1307 0 j rfl, hF1 1307 0 k rfl]
      simp only [hL, if_false]
      rw [gr50_e hm hk10 _ _ M1 hm1, hCt, hCd]
      have e1 : eBI (eBst (eCand M0 k) (eCnt M0) m) = eNp m M0 k := by unfold eNp; simp [hLv]
      have e2 : eBC (eCnt M0) (eBst (eCand M0 k) (eCnt M0) m) = eNc m M0 k := by unfold eNc; simp [hLv]
      rw [e1, e2, gr171_e hm hk1 hkm _ M0 M1 hF1 hLv]
      have := ih (rs (rs M1 1310 0 k (eNc m M0 k)) 1311 0 k (eNp m M0 k)) ⟨eH_rs (eH_rs hF1 rfl) rfl, fun b h1 h2 => by
        have := hI1 b h1
        simp only [rg_rs]
        grind⟩
      rw [eNum_s] at this
      have hx : (decide (eNum k (eChg m M0) ≠ 0) || eChg m M0 k) = decide ((eNum k (eChg m M0) + if eChg m M0 k then 1 else 0) ≠ 0) := by
        cases eChg m M0 k <;> simp
      rw [hx]
      exact this
  · exact ⟨eH_refl, fun b h1 h2 => by omega⟩
