/-! aim and conditions -/
def aimR (M1 : rM) : Option (Int32 × rM) := zbd (m12_isWord (6476969 : Int64) M1) (fun r2 M2 => (if r2 = 0 then zbd (m12_isWord (267347 : Int64) M2) (fun r3 M3 => (if r3 = 0 then zbd (m12_isWord (259565 : Int64) M3) (fun r4 M4 => (if r4 = 0 then zbd (m12_isWord (1905275 : Int64) M4) (fun r5 M5 => (if r5 = 0 then m12_isRead_72 (0 : Int32) M5 else m12_isRead_72 (4 : Int32) M5)) else m12_isRead_72 (3 : Int32) M4)) else m12_isRead_72 (2 : Int32) M3)) else m12_isRead_72 (1 : Int32) M2))
/-- aim read: both go on at the next token -/
def eAm (T : Nat → Int32) (q : Nat) (MC0 MC : cM) (MR0 MR : rM) (oC : Option (Int32 × cM)) (oR : Option (Int32 × rM)) : Prop := eSt MC0 MR0 oC oR ∨ ∃ MC' MR' s e a, oC = some (1, MC') ∧ oR = m12_isRead_118 MR' ∧ eTP T q s e MC' MR' ∧ eFr MC0 MC' MR0 MR' ∧ eF [11002, 11003, 10700] MC MC' ∧ eH [11231, 11232, 11234, 11235, 11236] MR MR' ∧ 1 ≤ a ∧ a ≤ 4 ∧ cg MC' 7 0 0 = nI (a - 1) ∧ rg MR' 12 0 36 = nI a
theorem aim_loud {T : Nat → Int32} {q s e a : Nat} {MC0 MC MCn : cM} {MR0 MR : rM} (h : eTP T q s e MC MR) (hf : eFr MC0 MC MR0 MR) (ha : 1 ≤ a) (ha3 : a ≤ 3) (hn : m10_nextToken MC = some MCn) : eAm T q MC0 MC MR0 MR (m10_readAim_81 (cs MCn 7 0 0 (nI (a - 1)))) (m12_isRead_72 (nI a) MR) := by
  have e0 : ¬ nI a = 0 := fun h => by rw [show (0 : Int32) = nI 0 from rfl, eI_inj (by omega) (by omega)] at h; omega
  have e4 : ¬ (4 : Int32) ≤ nI a := fun h => by rw [show (4 : Int32) = nI 4 from rfl, eI_le (by omega) (by omega)] at h; omega
  obtain ⟨MR1, hR1⟩ : ∃ N, N = rs MR 12 0 36 (nI a) := ⟨_, rfl⟩
  have f1 : eH [11236] MR MR1 := by rw [hR1]; exact eH_rs eH_refl rfl
  obtain ⟨MR', s', e', n1, n2, n3, n4, n5⟩ := tp_pass h hn f1 rfl
  have r36 : rg MR1 12 0 36 = nI a := by rw [hR1]; rfl
  have r36' : rg MR' 12 0 36 = nI a := by rw [n4 12 0 36 rfl, r36]
  obtain ⟨MCa, hCa⟩ : ∃ N, N = cs MCn 7 0 0 (nI (a - 1)) := ⟨_, rfl⟩
  have c0 : cg MCa 7 0 0 = nI (a - 1) := by rw [hCa]; rfl
  have fa : eF [10700] MCn MCa := by rw [hCa]; exact eF_cs eF_refl rfl
  have ta : eTP T q s' e' MCa MR' := tp_fr n5 fa (eH_refl (K := [])) rfl rfl rfl
  have fall : eFr MC0 MCa MR0 MR' := ⟨eF_trans hf.1 (eF_trans (eF_mono n2 rfl) (eF_mono fa rfl)), by rw [hCa]; exact n3.trans hf.2.1, eH_trans hf.2.2 (eH_trans (eH_mono f1 rfl) (eH_mono n4 rfl))⟩
  unfold m12_isRead_72 m10_readAim_81
  rw [← hR1, r36, if_neg e0, n1, zbv_s, r36', if_neg e4, ← hCa]
  rw [show (247702 : Int64) = eL (eWv 4) from rfl]
  rcases tp_word ta 4 (by omega) with ⟨w1, w2, MC2, w3, w4⟩ | ⟨w1, w2, w3⟩
  · obtain ⟨MR2, s2, e2, p1, p2, p3, p4, p5⟩ := tp_pass ta w4 (eH_refl (K := [])) rfl
    refine .inr ⟨MC2, MR2, s2, e2, a, ?_, ?_, p5, eFr_next fall p2 p3 p4, eF_trans (eF_mono n2 rfl) (eF_trans (eF_mono fa rfl) (eF_mono p2 rfl)), eH_trans (eH_mono f1 rfl) (eH_trans (eH_mono n4 rfl) (eH_mono p4 rfl)), ha, by omega, by rw [p2 7 0 0 rfl, c0], by rw [p4 12 0 36 rfl, r36']⟩
    · rw [w3, zbd_s]; rfl
    · rw [w2, zbd_s, if_neg (by decide), p1, zbv_s]
  · refine .inl ?_
    rw [w3, w2, zbd_s, zbd_s, if_pos rfl]
    exact fails_e ta fall
theorem aim_e {T : Nat → Int32} {q s e : Nat} {MC0 MC : cM} {MR0 MR : rM} (h : eTP T q s e MC MR) (hf : eFr MC0 MC MR0 MR) : eAm T q MC0 MC MR0 MR (m10_readAim MC) (aimR MR) := by
  unfold m10_readAim aimR
  rw [show (6476969 : Int64) = eL (eWv 1) from rfl, show (267347 : Int64) = eL (eWv 2) from rfl, show (259565 : Int64) = eL (eWv 3) from rfl, show (1905275 : Int64) = eL (eWv 0) from rfl]
  rcases tp_word h 0 (by omega) with ⟨a1, a2, MCa, a3, a4⟩ | ⟨a1, a2, a3⟩
  · have b1 := iw_ne a1 (w := 1) (by decide) (by omega) (by omega)
    have b2 := iw_ne a1 (w := 2) (by decide) (by omega) (by omega)
    have b3 := iw_ne a1 (w := 3) (by decide) (by omega) (by omega)
    rcases tp_word h 1 (by omega) with ⟨c, -⟩ | ⟨-, c1, -⟩
    · exact absurd c b1
    rcases tp_word h 2 (by omega) with ⟨c, -⟩ | ⟨-, c2, -⟩
    · exact absurd c b2
    rcases tp_word h 3 (by omega) with ⟨c, -⟩ | ⟨-, c3, -⟩
    · exact absurd c b3
    simp only [a2, a3, c1, c2, c3, zbd_s, if_true, if_false, e_01, eq_self, show ((1 : Int32) = 0) = False from eq_false (by decide)]
    obtain ⟨MR1, hR1⟩ : ∃ N, N = rs MR 12 0 36 4 := ⟨_, rfl⟩
    have f1 : eH [11236] MR MR1 := by rw [hR1]; exact eH_rs eH_refl rfl
    obtain ⟨MR', s', e', n1, n2, n3, n4, n5⟩ := tp_pass h a4 f1 rfl
    have r36 : rg MR1 12 0 36 = 4 := by rw [hR1]; rfl
    have r36' : rg MR' 12 0 36 = 4 := by rw [n4 12 0 36 rfl, r36]
    obtain ⟨MCb, hCb⟩ : ∃ N, N = cs MCa 7 0 0 3 := ⟨_, rfl⟩
    have c0 : cg MCb 7 0 0 = 3 := by rw [hCb]; rfl
    have fa : eF [10700] MCa MCb := by rw [hCb]; exact eF_cs eF_refl rfl
    refine .inr ⟨MCb, MR', s', e', 4, by rw [hCb], ?_, tp_fr n5 fa (eH_refl (K := [])) rfl rfl rfl, ⟨eF_trans hf.1 (eF_trans (eF_mono n2 rfl) (eF_mono fa rfl)), by rw [hCb]; exact n3.trans hf.2.1, eH_trans hf.2.2 (eH_trans (eH_mono f1 rfl) (eH_mono n4 rfl))⟩, eF_trans (eF_mono n2 rfl) (eF_mono fa rfl), eH_trans (eH_mono f1 rfl) (eH_mono n4 rfl), by omega, by omega, c0, r36'⟩
    unfold m12_isRead_72
    rw [← hR1, r36, if_neg (by decide), n1, zbv_s, r36', if_pos (by decide)]
  rcases tp_word h 1 (by omega) with ⟨b1, b2, MCb, b3, b4⟩ | ⟨b1, b2, b3⟩
  · simp only [a3, b2, b3, zbd_s, if_true, if_false, e_01, eq_self, show ((1 : Int32) = 0) = False from eq_false (by decide)]
    exact aim_loud h hf (a := 1) (by omega) (by omega) b4
  rcases tp_word h 2 (by omega) with ⟨c1, c2, MCc, c3, c4⟩ | ⟨c1, c2, c3⟩
  · simp only [a3, b2, b3, c2, c3, zbd_s, if_true, if_false, e_01, eq_self, show ((1 : Int32) = 0) = False from eq_false (by decide)]
    exact aim_loud h hf (a := 2) (by omega) (by omega) c4
  rcases tp_word h 3 (by omega) with ⟨d1, d2, MCd, d3, d4⟩ | ⟨d1, d2, d3⟩
  · simp only [a3, b2, b3, c2, c3, d2, d3, zbd_s, if_true, if_false, e_01, eq_self, show ((1 : Int32) = 0) = False from eq_false (by decide)]
    exact aim_loud h hf (a := 3) (by omega) (by omega) d4
  refine .inl ?_
  simp only [a2, a3, b2, b3, c2, c3, d2, d3, zbd_s, if_true, if_false, eq_self]
  unfold m12_isRead_72
  obtain ⟨MR1, hR1⟩ : ∃ N, N = rs MR 12 0 36 0 := ⟨_, rfl⟩
  have f1 : eH [11236] MR MR1 := by rw [hR1]; exact eH_rs eH_refl rfl
  rw [← hR1, show rg MR1 12 0 36 = 0 from by rw [hR1]; rfl, if_pos rfl]
  exact fails_e (tp_fr h (eF_refl (K := [])) f1 (by rw [hR1]; rfl) rfl rfl) ⟨hf.1, hf.2.1, eH_trans hf.2.2 (eH_mono f1 rfl)⟩
