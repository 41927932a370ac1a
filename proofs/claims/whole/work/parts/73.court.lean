/-! the court -/
def eHe (M : rM) (e s : Nat) : Bool := eb (rg M 1369 0 e) s
def eBd (M : rM) (w : Int32) (t s e : Nat) : Bool := !(eb w e) && (decide (rg M 1370 0 (5 * e + t) = 1) && !(eHe M e s))
def eMz (M : rM) (w : Int32) (t s e : Nat) : Bool := !(eb w e) && (decide (rg M 1370 0 (5 * e + t) = 0) && eHe M e s)
def eMis (M : rM) (w : Int32) (t s : Nat) : Nat := if eNum 6 (eBd M w t s) = 0 then eNum 6 (eMz M w t s) else 100
def eGo (M : rM) (a b : Nat) : Bool := decide (a = b) || eb (rg M 1368 0 a) b
def eTo (M : rM) (w : Int32) : Nat → Nat → Nat
  | 0, _ => 0
  | t + 1, c => eTo M w t (c / 6) + eMis M w t (c % 6) + if decide (t = 0) || eGo M (c / 6 % 6) (c % 6) then 0 else 100
theorem eTo_s (M : rM) (w : Int32) (t c : Nat) : eTo M w (t + 1) c = eTo M w t (c / 6) + eMis M w t (c % 6) + if decide (t = 0) || eGo M (c / 6 % 6) (c % 6) then 0 else 100 := rfl
theorem eMis_le (M : rM) (w : Int32) (t s : Nat) : eMis M w t s ≤ 100 := by
  unfold eMis; split
  · have := eNum_le 6 (eMz M w t s); omega
  · omega
theorem eTo_le (M : rM) (w : Int32) (t c : Nat) : eTo M w t c ≤ 200 * t := by
  induction t generalizing c with
  | zero => exact Nat.le_refl _
  | succ t ih =>
    rw [eTo_s]
    have := ih (c / 6)
    have := eMis_le M w t (c % 6)
    split <;> omega
theorem earH_c {e s : Nat} {MC : cM} {MR : rM} (g8 : eG8 MC MR) (he : e < 6) (hs : s < 6) : m4_earHears (nI e) (nI s) MC = some (if eHe MR e s then 1 else 0, MC) := by
  unfold m4_earHears eHe
  simp only [er_y he, ezin_nI (show e < 6 by omega) (show 6 < 2 ^ 31 by decide), ex_nI (show e < 2 ^ 31 by omega), zshr1_1 (show s < 32 by omega), (g8.2.2.1 e he).1, zbd_s, zbv_s, zgd_t, Bool.and_true, Bool.true_and, Bool.and_self, if_true, if_false, e_01, eq_self, Bool.false_eq_true]
  cases eb (rg MR 1369 0 e) s <;> simp
theorem mis_c {t s : Nat} {MC : cM} {MR : rM} (g8 : eG8 MC MR) (ht : t < 5) (hs : s < 6) (w : Int32) : m4_missesAt (nI t) (nI s) w MC = some (nI (eMis MR w t s), MC) := by
  unfold m4_missesAt
  refine eloop0 (fun f k => eNum k (eBd MR w t s) = 0 → m4_missesAt_6 f (nI t) (nI s) w (nI (eNum k (eMz MR w t s))) (nI k) MC = some (nI (eMis MR w t s), MC)) (m := 6) (k0 := 0) (by omega) ?_ ?_ (zfu_gt (by omega)) rfl
  · intro f hz
    simp only [m4_missesAt_6, show ((6 : Int32) ≤ nI 6) = True from eq_true (by decide), eMis, hz, zbd_s, zbv_s, zgd_t, Bool.and_true, Bool.true_and, Bool.and_self, if_true, if_false, e_01, eq_self, Bool.false_eq_true]
  · intro f k _ hk ih hz
    have hl := g8.2.2.2.1 (5 * k + t) (by omega)
    simp only [m4_missesAt_6, m4_missesAt_64, m4_missesAt_77, show ((6 : Int32) ≤ nI k) = False from eq_false (by rw [show (6 : Int32) = nI 6 from rfl, eI_le (by omega) (by omega)]; omega), logOf_e hk ht, hl.1, zshr1_1 (show k < 32 by omega), earH_c g8 hk hs, ei_1, ep1, zbd_s, zbv_s, zgd_t, Bool.and_true, Bool.true_and, Bool.and_self, if_true, if_false, e_01, eq_self, Bool.false_eq_true]
    rw [eNum_s, eNum_s, hz] at ih
    by_cases c1 : eb w k = true
    · have q1 : eBd MR w t s k = false := by unfold eBd; simp [c1]
      have q2 : eMz MR w t s k = false := by unfold eMz; simp [c1]
      rw [q1, q2] at ih
      simp only [c1, if_true]
      simpa using ih
    · simp only [c1, if_false]
      rcases hl.2 with h | h | h
      · have q1 : eBd MR w t s k = false := by unfold eBd; simp [h]
        have q2 : eMz MR w t s k = eHe MR k s := by unfold eMz; simp [h, c1]
        rw [q1, q2] at ih
        simp only [h]
        cases hh : eHe MR k s <;> simp [hh, ep1] at ih ⊢ <;> exact ih
      · have q1 : eBd MR w t s k = !(eHe MR k s) := by unfold eBd; simp [h, c1]
        have q2 : eMz MR w t s k = false := by unfold eMz; simp [h]
        rw [q1, q2] at ih
        simp only [h]
        cases hh : eHe MR k s
        · have hne : ¬ eNum 6 (eBd MR w t s) = 0 := fun h0 => by
            have := eNum_0.mp h0 k hk; rw [q1, hh] at this; cases this
          simp [eMis, hne]; rfl
        · simp [hh] at ih ⊢; exact ih
      · have q1 : eBd MR w t s k = false := by unfold eBd; simp [h]
        have q2 : eMz MR w t s k = false := by unfold eMz; simp [h]
        rw [q1, q2] at ih
        simp only [h]
        simpa using ih
theorem ears_e {t s acc : Nat} {MC : cM} {MR : rM} (g8 : eG8 MC MR) (ht : t < 5) (hs : s < 6) (w : Int32) (x1 : Int32) (k5 : Int32 → Int32 → Int32 → Int32 → rM → Option (Int32 × rM)) : m12_agrees_69 k5 zfu x1 w (nI acc) (nI t) (nI s) 0 MR = if eNum 6 (eBd MR w t s) = 0 then k5 x1 w (nI (acc + eNum 6 (eMz MR w t s))) (nI (t + 1)) MR else some (0, MR) := by
  refine eloop0 (fun f k => eNum k (eBd MR w t s) = 0 → m12_agrees_69 k5 f x1 w (nI (acc + eNum k (eMz MR w t s))) (nI t) (nI s) (nI k) MR = if eNum 6 (eBd MR w t s) = 0 then k5 x1 w (nI (acc + eNum 6 (eMz MR w t s))) (nI (t + 1)) MR else some (0, MR)) (m := 6) (k0 := 0) (by omega) ?_ ?_ (zfu_gt (by omega)) rfl
  · intro f hz
    simp only [m12_agrees_69, show ((6 : Int32) ≤ nI 6) = True from eq_true (by decide), hz, ep1, zbd_s, zbv_s, zgd_t, Bool.and_true, Bool.true_and, Bool.and_self, if_true, if_false, e_01, eq_self, Bool.false_eq_true]
  · intro f k _ hk ih hz
    have hl := g8.2.2.2.1 (5 * k + t) (by omega)
    simp only [m12_agrees_69, m12_agrees_101, m12_agrees_130, m12_agrees_146, show ((6 : Int32) ≤ nI k) = False from eq_false (by rw [show (6 : Int32) = nI 6 from rfl, eI_le (by omega) (by omega)]; omega), isIn_y (show k < 32 by omega), isIn_y (show s < 32 by omega), e5, eI_add, ezin_nI (show 5 * k + t < 30 by omega) (show 30 < 2 ^ 31 by decide), ex_nI (show 5 * k + t < 2 ^ 31 by omega), ezin_nI (show k < 6 by omega) (show 6 < 2 ^ 31 by decide), ex_nI (show k < 2 ^ 31 by omega), ei_1, ep1, zbd_s, zbv_s, zgd_t, Bool.and_true, Bool.true_and, Bool.and_self, if_true, if_false, e_01, eq_self, Bool.false_eq_true]
    rw [eNum_s, eNum_s, hz] at ih
    have hH : eb (rg MR 1369 0 k) s = eHe MR k s := rfl
    rw [hH]
    by_cases c1 : eb w k = true
    · have q1 : eBd MR w t s k = false := by unfold eBd; simp [c1]
      have q2 : eMz MR w t s k = false := by unfold eMz; simp [c1]
      rw [q1, q2] at ih
      simp [c1] at ih ⊢
      simpa using ih
    · have c1' : eb w k = false := by simpa using c1
      rw [c1']
      simp only [if_true]
      rcases hl.2 with h | h | h
      · have q1 : eBd MR w t s k = false := by unfold eBd; simp [h]
        have q2 : eMz MR w t s k = eHe MR k s := by unfold eMz; simp [h, c1]
        rw [q1, q2] at ih
        rw [h]
        cases hh : eHe MR k s
        · simp [hh] at ih ⊢; exact ih
        · simp [hh, ep1] at ih ⊢; exact ih
      · have q1 : eBd MR w t s k = !(eHe MR k s) := by unfold eBd; simp [h, c1]
        have q2 : eMz MR w t s k = false := by unfold eMz; simp [h]
        rw [q1, q2] at ih
        rw [h]
        cases hh : eHe MR k s
        · have hne : ¬ eNum 6 (eBd MR w t s) = 0 := fun h0 => by
            have := eNum_0.mp h0 k hk; rw [q1, hh] at this; cases this
          simp [hne]
        · simp [hh] at ih ⊢; exact ih
      · have q1 : eBd MR w t s k = false := by unfold eBd; simp [h]
        have q2 : eMz MR w t s k = false := by unfold eMz; simp [h]
        rw [q1, q2] at ih
        rw [h]
        simpa using ih
def eDg (d c t : Nat) : Nat := c / 6 ^ (d - 1 - t) % 6
theorem eDg_lt (d c t : Nat) : eDg d c t < 6 := Nat.mod_lt _ (by decide)
theorem eI_pred (y : Nat) : nI (y + 1) + (-1 : Int32) = nI y := eM_s y
theorem nI_sub1 (y : Nat) : nI (y + 1) - (1 : Int32) = nI y := by rw [← eI_add]; exact Int32.add_sub_cancel _ _
theorem zrem6 {a : Nat} (h : a < 2 ^ 31) : zrem (nI a) 6 = nI (a % 6) := zrem_nI h (by decide) (by decide)
theorem div6 {a : Nat} (h : a < 2 ^ 31) : nI a / 6 = nI (a / 6) := eI_div h (by decide)
theorem spot_e {d c t : Nat} {M : rM} (h : rg M 12 0 67 = nI d) (hd : d ≤ 5) (ht : t < d) (hc : c < 2 ^ 31) : m12_spotOf (nI c) (nI t) M = some (nI (eDg d c t), M) := by
  unfold m12_spotOf
  obtain ⟨d', rfl⟩ : ∃ d', d = d' + 1 := ⟨d - 1, by omega⟩
  rw [h, nI_sub1]
  refine eloop0 (fun f k => m12_spotOf_10 f (nI t) (nI (c / 6 ^ k)) (nI (d' - k)) M = some (nI (eDg (d' + 1) c t), M)) (m := d' - t) (k0 := 0) (by omega) ?_ ?_ (zfu_gt (by omega)) |> fun h => by simpa using h
  · intro f
    have hlt : c / 6 ^ (d' - t) < 2 ^ 31 := Nat.lt_of_le_of_lt (Nat.div_le_self _ _) hc
    simp only [m12_spotOf_10, eI_le (show d' - (d' - t) < 2 ^ 31 by omega) (show t < 2 ^ 31 by omega), show (d' - (d' - t) ≤ t) = True from eq_true (by omega), show znz 6 = true from rfl, zrem6 hlt, eDg, show d' + 1 - 1 - t = d' - t by omega, zbd_s, zbv_s, zgd_t, Bool.and_true, Bool.true_and, Bool.and_self, if_true, if_false, e_01, eq_self, Bool.false_eq_true]
  · intro f k _ hk ih
    have hlt : c / 6 ^ k < 2 ^ 31 := Nat.lt_of_le_of_lt (Nat.div_le_self _ _) hc
    simp only [m12_spotOf_10, eI_le (show d' - k < 2 ^ 31 by omega) (show t < 2 ^ 31 by omega), show (d' - k ≤ t) = False from eq_false (by omega), show znz 6 = true from rfl, div6 hlt, zbd_s, zbv_s, zgd_t, Bool.and_true, Bool.true_and, Bool.and_self, if_true, if_false, e_01, eq_self, Bool.false_eq_true]
    rw [← ih, Nat.div_div_eq_div_mul, ← Nat.pow_succ, show d' - k = (d' - (k + 1)) + 1 by omega, eI_pred]
theorem pow6 : ∀ j : Nat, j < 5 → zsv 2 j = nI (6 ^ j) := by decide
theorem spot_c {d c t : Nat} {M : cM} (h : cg M 4 0 1 = nI d) (hd : d ≤ 5) (ht : t < d) (hc : c < 2 ^ 31) : m4_spotIn (nI c) (nI t) M = some (nI (eDg d c t), M) := by
  unfold m4_spotIn
  obtain ⟨d', rfl⟩ : ∃ d', d = d' + 1 := ⟨d - 1, by omega⟩
  have e : nI (d' + 1) - (1 : Int32) - nI t = nI (d' - t) := by
    rw [nI_sub1]
    obtain ⟨u, rfl⟩ : ∃ u, d' = u + t := ⟨d' - t, by omega⟩
    rw [← eI_add, Nat.add_sub_cancel]; exact Int32.add_sub_cancel _ _
  have h6 : 6 ^ (d' - t) < 2 ^ 31 := Nat.lt_of_le_of_lt (Nat.pow_le_pow_right (by decide) (show d' - t ≤ 4 by omega)) (by decide)
  have h60 : 0 < 6 ^ (d' - t) := Nat.pow_pos (by decide)
  have hlt : c / 6 ^ (d' - t) < 2 ^ 31 := Nat.lt_of_le_of_lt (Nat.div_le_self _ _) hc
  rw [h, e, if_neg, if_pos]
  · simp only [ezin_nI (show d' - t < 5 by omega) (show 5 < 2 ^ 31 by decide), ex_nI (show d' - t < 2 ^ 31 by omega), pow6 (d' - t) (by omega), znz_pos (show (0 : Int32) < nI (6 ^ (d' - t)) by rw [show (0 : Int32) = nI 0 from rfl, eI_lt (by omega) h6]; exact h60), show znz 6 = true from rfl, eI_div hc h6, zrem6 hlt, eDg, show d' + 1 - 1 - t = d' - t by omega, zbd_s, zbv_s, zgd_t, Bool.and_true, Bool.true_and, Bool.and_self, if_true, if_false, e_01, eq_self, Bool.false_eq_true]
  · rw [show Int32.ofNat (zsl 2) = nI 5 from rfl, eI_lt (by omega) (by omega)]; omega
  · rw [show (0 : Int32) = nI 0 from rfl, eI_lt (by omega) (by omega)]; omega
