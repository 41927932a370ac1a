/-! what is said, carried -/
def eWhy (L H U S : Bool) (c : Nat) : Int32 := if L then (if H then (if U then (if S then 3 else if c ≤ 1 then -1 else 3) else 2) else 1) else 0
theorem eWhy_ok (L H U S : Bool) (c : Nat) : eWhy L H U S c = -1 ∧ S = false ∨ ¬ eWhy L H U S c = -1 ∧ ∃ w : Nat, w < 8 ∧ eWhy L H U S c = nI w := by
  unfold eWhy
  cases L
  · exact .inr ⟨show ¬ ((0 : Int32) = -1) from by decide, 0, by decide, rfl⟩
  cases H
  · exact .inr ⟨show ¬ ((1 : Int32) = -1) from by decide, 1, by decide, rfl⟩
  cases U
  · exact .inr ⟨show ¬ ((2 : Int32) = -1) from by decide, 2, by decide, rfl⟩
  cases S
  · by_cases hc : c ≤ 1
    · left; simp [hc]
    · right
      simp only [hc, if_true, if_false, Bool.false_eq_true]
      exact ⟨by decide, 3, by decide, rfl⟩
  · exact .inr ⟨show ¬ ((3 : Int32) = -1) from by decide, 3, by decide, rfl⟩
theorem why_c {m p k : Nat} {S : Nat → Bool} {M : cM} {N : rM} (hm : m ≤ 10) (g1 : eG1 m M N) (hp : p < m) (hk : k < m) (hS9 : ∀ j, j < 32 → eb (cg M 0 0 9) j = S j) (hS : ∀ j, m ≤ j → S j = false) : m0_whyLost p (nI k) M = some (eWhy (eb (cg M 0 0 7) p) (eb (rg N 1307 0 p) k) (eb (cg M 0 0 8) p) (S p) (eHrd m S N p), M) := by
  have n10 : ((1 : Int32) = 0) = False := eq_false (by decide)
  have hp10 : p < 10 := by omega
  have e20 : cg M 2 p 0 = nI p := (g1.1 p hp10).1
  have e29 : cg M 2 p 9 = rg N 1307 0 p := (g1.1 p hp10).2.2.2.2.2.1.1
  obtain ⟨a, ha, e, hbc⟩ := eBc_set hm (fun a => S a && eb (rg N 1307 0 p) a)
  have hc : eNum m (fun a => S a && eb (rg N 1307 0 p) a) = eHrd m S N p := rfl
  have hle : eHrd m S N p ≤ 10 := Nat.le_trans (eNum_le m _) hm
  have x1 : (nI (eHrd m S N p) ≤ (1 : Int32)) = (eHrd m S N p ≤ 1) := by rw [show (1 : Int32) = nI 1 from rfl, eI_le (by omega) (by omega)]
  unfold m0_whyLost eWhy
  simp only [blt_t hp10, e20, isIn_c (show p < 32 by omega), hear_c g1 hp10 k (by omega), e29, and_set (x := rg N 1307 0 p) hm hS9 hS, hS9 p (by omega), e, bitC ha, hbc, hc, x1, zbd_s, zbv_s, zgd_t, Bool.and_true, Bool.true_and, Bool.and_self, if_true, if_false, e_01, eq_self, Bool.false_eq_true]
  cases eb (cg M 0 0 7) p
  · simp only [zbd_s, zbv_s, zgd_t, Bool.and_true, Bool.true_and, Bool.and_self, if_true, if_false, e_01, eq_self, Bool.false_eq_true]
  cases eb (rg N 1307 0 p) k
  · simp only [n10, zbd_s, zbv_s, zgd_t, Bool.and_true, Bool.true_and, Bool.and_self, if_true, if_false, e_01, eq_self, Bool.false_eq_true]
  cases eb (cg M 0 0 8) p
  · simp only [n10, zbd_s, zbv_s, zgd_t, Bool.and_true, Bool.true_and, Bool.and_self, if_true, if_false, e_01, eq_self, Bool.false_eq_true]
  cases S p
  · simp only [n10, zbd_s, zbv_s, zgd_t, Bool.and_true, Bool.true_and, Bool.and_self, if_true, if_false, e_01, eq_self, Bool.false_eq_true]
    by_cases h1 : eHrd m S N p ≤ 1
    · simp only [h1, zbd_s, zbv_s, zgd_t, Bool.and_true, Bool.true_and, Bool.and_self, if_true, if_false, e_01, eq_self, Bool.false_eq_true]
    · simp only [h1, zbd_s, zbv_s, zgd_t, Bool.and_true, Bool.true_and, Bool.and_self, if_true, if_false, e_01, eq_self, Bool.false_eq_true]
  · simp only [n10, zbd_s, zbv_s, zgd_t, Bool.and_true, Bool.true_and, Bool.and_self, if_true, if_false, e_01, eq_self, Bool.false_eq_true]
theorem zbv_id {α : Type} (o : Option α) : zbv o (fun x => some x) = o := by
  cases o <;> rfl
theorem deliver_e {p k c : Nat} {L U S : Bool} {N : rM} (hp : p < 10) (hk : k < 10) (hc : c ≤ 10) (h9 : rg N 1309 0 k = nI p) (h23 : rg N 1323 0 p = if L then 0 else 1) (h22 : rg N 1322 0 p = if U then 1 else 0) (h24 : rg N 1324 0 p = if S then 1 else 0) (h26 : rg N 1326 0 p = nI c) : m12_deliver (nI k) N = if eWhy L (eb (rg N 1307 0 p) k) U S c = -1 then m12_getWord (nI p) (nI (6 * k)) N else some (rs N 1319 0 (nx (eWhy L (eb (rg N 1307 0 p) k) U S c)) (rg N 1319 0 (nx (eWhy L (eb (rg N 1307 0 p) k) U S c)) + 1)) := by
  have n10 : ((1 : Int32) = 0) = False := eq_false (by decide)
  have x1 : (nI c ≤ (1 : Int32)) = (c ≤ 1) := by rw [show (1 : Int32) = nI 1 from rfl, eI_le (by omega) (by omega)]
  unfold m12_deliver m12_deliver_96 eWhy
  simp only [ezin_nI (show k < 10 by omega) (show 10 < 2 ^ 31 by decide), ex_nI (show k < 2 ^ 31 by omega), h9, ezin_nI (show p < 10 by omega) (show 10 < 2 ^ 31 by decide), ex_nI (show p < 2 ^ 31 by omega), h23, h22, h24, h26, isIn_y (show k < 32 by omega), x1, e6, zbv_id, show zin 0 8 = true from rfl, show zin 1 8 = true from rfl, show zin 2 8 = true from rfl, show zin 3 8 = true from rfl, zbd_s, zbv_s, zgd_t, Bool.and_true, Bool.true_and, Bool.and_self, if_true, if_false, e_01, eq_self, Bool.false_eq_true]
  cases L
  · simp only [n10, show ((0 : Int32) = -1) = False from eq_false (by decide), zbd_s, zbv_s, zgd_t, Bool.and_true, Bool.true_and, Bool.and_self, if_true, if_false, e_01, eq_self, Bool.false_eq_true]
  cases eb (rg N 1307 0 p) k
  · simp only [show ((1 : Int32) = -1) = False from eq_false (by decide), zbd_s, zbv_s, zgd_t, Bool.and_true, Bool.true_and, Bool.and_self, if_true, if_false, e_01, eq_self, Bool.false_eq_true]
  cases U
  · simp only [n10, show ((2 : Int32) = -1) = False from eq_false (by decide), zbd_s, zbv_s, zgd_t, Bool.and_true, Bool.true_and, Bool.and_self, if_true, if_false, e_01, eq_self, Bool.false_eq_true]
  cases S
  · simp only [n10, zbd_s, zbv_s, zgd_t, Bool.and_true, Bool.true_and, Bool.and_self, if_true, if_false, e_01, eq_self, Bool.false_eq_true]
    by_cases h1 : c ≤ 1
    · simp only [h1, zbd_s, zbv_s, zgd_t, Bool.and_true, Bool.true_and, Bool.and_self, if_true, if_false, e_01, eq_self, Bool.false_eq_true]
    · simp only [h1, show ((3 : Int32) = -1) = False from eq_false (by decide), zbd_s, zbv_s, zgd_t, Bool.and_true, Bool.true_and, Bool.and_self, if_true, if_false, e_01, eq_self, Bool.false_eq_true]
  · simp only [n10, show ((3 : Int32) = -1) = False from eq_false (by decide), zbd_s, zbv_s, zgd_t, Bool.and_true, Bool.true_and, Bool.and_self, if_true, if_false, e_01, eq_self, Bool.false_eq_true]
theorem carry_cr {m t : Nat} {S : Nat → Bool} {MC : cM} {MR : rM} (hm : m ≤ 10) (g0 : eG0 m t MC MR) (g1 : eG1 m MC MR) (g2 : eG2 m MC MR) (g3 : eG3y S m MC MR) (hms : eMs MC ≤ 10) (hup : eUp m MC MR) (hty : eTly MC MR) (hkp : eKp MC MR) (hS9 : ∀ j, j < 32 → eb (cg MC 0 0 9) j = S j) (hS : ∀ j, m ≤ j → S j = false) (hSp : ∀ j, j < m → S j = true → ¬ rg MR 1309 0 j = -1) (h24 : ∀ j, j < m → rg MR 1324 0 j = if S j then 1 else 0) (h26 : ∀ j, j < m → rg MR 1326 0 j = nI (eHrd m S MR j)) : ∃ MC' MR', m0_pass_39 zfu 0 MC = some (cs MC' 3 0 5 (nI (t + 1))) ∧ m12_goTick_131 zfu 0 MR = some MR' ∧ eF eKG MC MC' ∧ (∀ kk i s, ¬ kk = 901 → cp MC' kk i s = cp MC kk i s) ∧ eH eKG' MR MR' ∧ eG3 m MC' MR' ∧ eTly MC' MR' ∧ eKp MC' MR' := by
  have n10 : ((1 : Int32) = 0) = False := eq_false (by decide)
  refine eloop (σ := cM × rM) (fun f k s => ∃ MC' MR', m0_pass_39 f (nI k) s.1 = some (cs MC' 3 0 5 (nI (t + 1))) ∧ m12_goTick_131 f (nI k) s.2 = some MR' ∧ eF eKG MC MC' ∧ (∀ kk i s, ¬ kk = 901 → cp MC' kk i s = cp MC kk i s) ∧ eH eKG' MR MR' ∧ eG3 m MC' MR' ∧ eTly MC' MR' ∧ eKp MC' MR') (fun k s => eF eKG MC s.1 ∧ (∀ kk i j, ¬ kk = 901 → cp s.1 kk i j = cp MC kk i j) ∧ eH eKG' MR s.2 ∧ eG3y (fun b => S b && decide (k ≤ b)) m s.1 s.2 ∧ eMs s.1 ≤ 10 ∧ eTly s.1 s.2 ∧ eKp s.1 s.2) (s := (MC, MR)) (m := m) (k0 := 0) (by omega) ?_ ?_ (zfu_gt (by omega)) ⟨eF_refl, fun _ _ _ _ => rfl, eH_refl, eG3y_sp g3 (fun b _ => by simp), hms, hty, hkp⟩
  · rintro f ⟨M, N⟩ ⟨i1, i2, i3, i4, i5, i6, i7⟩
    dsimp only at i1 i2 i3 i4 i5 i6 i7
    refine ⟨M, N, ?_, ?_, i1, i2, i3, eG3_y.mpr ⟨eG3y_sp i4 (fun b _ => ?_), i5⟩, i6, i7⟩
    · dsimp only
      rw [m0_pass_39, i1 3 0 4 rfl, g0.1, if_pos (by rw [eI_le (by omega) (by omega)]; omega), i1 3 0 5 rfl, g0.2.2.1, ep1]
    · dsimp only
      rw [m12_goTick_131, i3 12 0 0 rfl, g0.2.1, if_pos (by rw [eI_le (by omega) (by omega)]; omega)]
    · by_cases hb : m ≤ b
      · rw [hS b hb]; rfl
      · simp [hb]
  · rintro f k ⟨M, N⟩ hk0 hk ⟨i1, i2, i3, i4, i5, i6, i7⟩ ih
    dsimp only at i1 i2 i3 i4 i5 i6 i7 ⊢
    have hk10 : k < 10 := by omega
    have G1 := eG1_fr g1 i1 i3 rfl rfl
    have G2 := eG2_fr g2 i1 i3 rfl rfl
    have e34 : cg M 3 0 4 = nI m := by rw [i1 3 0 4 rfl, g0.1]
    have e12 : rg N 12 0 0 = nI m := by rw [i3 12 0 0 rfl, g0.2.1]
    have e09 : cg M 0 0 9 = cg MC 0 0 9 := i1 0 0 9 rfl
    have hS9' : ∀ j, j < 32 → eb (cg M 0 0 9) j = S j := fun j hj => by rw [e09]; exact hS9 j hj
    have hHrd : ∀ j, eHrd m S N j = eHrd m S MR j := fun j => by unfold eHrd; rw [i3 1307 0 j rfl]
    rw [m0_pass_39, m12_goTick_131]
    simp only [e34, e12, eI_le (show m < 2 ^ 31 by omega) (show k < 2 ^ 31 by omega), show (m ≤ k) = False from eq_false (by omega), isIn_c (show k < 32 by omega), hS9' k (by omega), ezin_nI (show k < 10 by omega) (show 10 < 2 ^ 31 by decide), ex_nI (show k < 2 ^ 31 by omega), i3 1324 0 k rfl, h24 k hk, m0_pass_66, m12_goTick_153, ep1, zbd_s, zbv_s, zgd_t, Bool.and_true, Bool.true_and, Bool.and_self, if_true, if_false, e_01, eq_self, Bool.false_eq_true]
    rcases (Bool.eq_false_or_eq_true (S k)).symm with hs | hs
    · simp only [hs, zbd_s, zbv_s, zgd_t, Bool.and_true, Bool.true_and, Bool.and_self, if_true, if_false, e_01, eq_self, Bool.false_eq_true]
      refine ih (M, N) ⟨i1, i2, i3, eG3y_sp i4 (fun b _ => ?_), i5, i6, i7⟩
      by_cases hbk : b = k
      · rw [hbk, hs]; rfl
      · have : decide (k + 1 ≤ b) = decide (k ≤ b) := by congr 1; refine propext ?_; omega
        rw [this]
    · simp only [hs, n10, zbd_s, zbv_s, zgd_t, Bool.and_true, Bool.true_and, Bool.and_self, if_true, if_false, e_01, eq_self, Bool.false_eq_true]
      obtain ⟨p, hpm, hpk, hp⟩ : ∃ p : Nat, p < m ∧ p ≠ k ∧ rg N 1309 0 k = nI p := by
        rcases (G2.1 k hk).2.2 with ⟨h, -⟩ | ⟨-, -, -, h⟩
        · exact absurd (by rw [← i3 1309 0 k rfl]; exact h) (hSp k hk hs)
        · exact h
      have hp10 : p < 10 := by omega
      have ecp : cg M 2 k 7 = nI p := by rw [(G2.1 k hk).1, hp]
      have hsk : (fun b => S b && decide (k ≤ b)) k = true := by simp [hs]
      obtain ⟨W, hW⟩ : ∃ W, W = eWhy (eb (cg M 0 0 7) p) (eb (rg N 1307 0 p) k) (eb (cg M 0 0 8) p) (S p) (eHrd m S N p) := ⟨_, rfl⟩
      have hwc := why_c (p := p) (k := k) hm G1 hpm hk hS9' hS
      have hup' := hup p hpm
      have hde := deliver_e (p := p) (k := k) (c := eHrd m S N p) (L := eb (cg M 0 0 7) p) (U := eb (cg M 0 0 8) p) (S := S p) (N := N) hp10 hk10 (Nat.le_trans (eNum_le m _) hm) hp (by rw [i3 1323 0 p rfl, i1 0 0 7 rfl]; exact hup'.1) (by rw [i3 1322 0 p rfl, i1 0 0 8 rfl]; exact hup'.2) (by rw [i3 1324 0 p rfl]; exact h24 p hpm) (by rw [i3 1326 0 p rfl, hHrd]; exact h26 p hpm)
      rw [← hW] at hwc hde
      unfold m0_carry m0_carry_58
      simp only [of_y hk10, of_y hp10, blt_t hk10, ecp, hwc, hde, zbv_id, zbd_s, zbv_s, zgd_t, Bool.and_true, Bool.true_and, Bool.and_self, if_true, if_false, e_01, eq_self, Bool.false_eq_true]
      have step : ∀ M1 N1, eGiv (fun b => S b && decide (k ≤ b)) m k M N M1 N1 → ∃ M2, m8_drop k 0 M1 = some M2 ∧ ∃ MC' MR', m0_pass_39 f (nI (k + 1)) M2 = some (cs MC' 3 0 5 (nI (t + 1))) ∧ m12_goTick_131 f (nI (k + 1)) N1 = some MR' ∧ eF eKG MC MC' ∧ (∀ kk i s, ¬ kk = 901 → cp MC' kk i s = cp MC kk i s) ∧ eH eKG' MR MR' ∧ eG3 m MC' MR' ∧ eTly MC' MR' ∧ eKp MC' MR' := by
        rintro M1 N1 ⟨j1, j2, j3, j4, j5, j6, j7, j8⟩
        obtain ⟨M2, d1, d2, d3, d4, d5⟩ := drop_x j4 hk hm hsk
        refine ⟨M2, d1, ih (M2, N1) ⟨eF_trans i1 (eF_trans j1 (eF_mono d2 rfl)), fun kk i s hkk => ?_, eH_trans i3 j3, eG3y_sp d4 (fun b _ => ?_), ?_, ty_fr j7 d2 (eH_refl (K := [])) rfl rfl, kp_fr j8 d2 (eH_refl (K := [])) rfl rfl⟩⟩
        · rw [d3 kk i s hkk, show cp M1 kk i s = cp M kk i s by unfold cp; rw [j2]]; exact i2 kk i s hkk
        · by_cases hbk : b = k
          · rw [hbk]; simp
          · have : decide (k + 1 ≤ b) = decide (k ≤ b) := by congr 1; refine propext ?_; omega
            rw [this]; simp [hbk]
        · dsimp only; omega
      rcases eWhy_ok (eb (cg M 0 0 7) p) (eb (rg N 1307 0 p) k) (eb (cg M 0 0 8) p) (S p) (eHrd m S N p) with ⟨w1, w2⟩ | ⟨w1, w, w2, w3⟩
      · rw [← hW] at w1
        obtain ⟨M1, N1, a1, a2, a3⟩ := give_x (p := p) (k := k) i4 G1 i5 hpm hk hm (by simp [w2]) hsk i6 i7
        obtain ⟨M2, b1, b2⟩ := step M1 N1 a3
        simp only [w1, a1, a2, b1, zbd_s, zbv_s, zgd_t, Bool.and_true, Bool.true_and, Bool.and_self, if_true, if_false, e_01, eq_self, Bool.false_eq_true]
        exact b2
      · rw [← hW] at w1 w3
        obtain ⟨M2, b1, b2⟩ := step _ _ (loss_x (k := k) (c := w) i4 i6 i7 w2)
        simp only [w1, w3, ezin_nI (show w < 8 by omega) (show 8 < 2 ^ 31 by decide), ex_nI (show w < 2 ^ 31 by omega), b1, show (nI w = -1) = False from by rw [← w3]; exact eq_false w1, zbd_s, zbv_s, zgd_t, Bool.and_true, Bool.true_and, Bool.and_self, if_true, if_false, e_01, eq_self, Bool.false_eq_true]
        exact b2
