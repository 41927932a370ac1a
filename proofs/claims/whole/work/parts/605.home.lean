def eCnt (M : rM) (b : Nat) : Int32 := if b = 0 then (if rg M 1302 0 0 ≤ 0 then -1 else 0) else rg M 1308 0 b
def eLoc (M : rM) (b : Nat) (T : Int32) : Int32 := T + (rg M 1305 0 b * T) / 100 + rg M 1306 0 b
def eAt (M : rM) (b : Nat) (T : Int32) : Int32 := if 0 ≤ zrem (eLoc M b T) (rg M 1303 0 b) then zrem (eLoc M b T) (rg M 1303 0 b) else zrem (eLoc M b T) (rg M 1303 0 b) + rg M 1303 0 b
def eOn (M : rM) (b : Nat) (T : Int32) : Bool := decide (zshr (rg M 1304 0 b) (eAt M b T) &&& 1 = 1)
theorem eI_pos {b : Nat} (h : b < 2 ^ 31) : (nI b ≤ 0) = (b = 0) := by
  rw [show (0 : Int32) = nI 0 from rfl, eI_le h (by decide)]; refine propext ?_; omega
theorem eI_0 {b : Nat} (h : b < 2 ^ 31) : (nI b = 0) = (b = 0) := by
  rw [show (0 : Int32) = nI 0 from rfl, eI_inj h (by decide)]
theorem nx_0 : nx 0 = 0 := rfl
theorem nx_k (k : Nat) (hk : k < 2147483648) : nx (OfNat.ofNat k : Int32) = k := ex_nI hk
theorem cntOf_e {b : Nat} (hb : b < 10) (M : rM) : m12_countOf (nI b) M = some (eCnt M b, M) := by
  unfold m12_countOf eCnt
  simp only [eI_pos (show b < 2 ^ 31 by omega), nx_0, ezin_nI hb (by decide), ex_nI (show b < 2 ^ 31 by omega), show zin 0 10 = true from rfl, zbd_s, zbv_s, zgd_t, Bool.and_true, Bool.true_and, Bool.and_self, if_true, if_false, e_01, eq_self, Bool.false_eq_true]
  by_cases h : b = 0
  · simp only [h, if_true]; split <;> rfl
  · simp only [h, if_false]
theorem local_e {b : Nat} (hb : b < 10) (T : Int32) (M : rM) : m12_local (nI b) T M = some (eLoc M b T, M) := by
  unfold m12_local eLoc
  simp only [ezin_nI hb (by decide), ex_nI (show b < 2 ^ 31 by omega), show znz 100 = true from rfl, zbd_s, zbv_s, zgd_t, Bool.and_true, Bool.true_and, Bool.and_self, if_true, if_false, e_01, eq_self, Bool.false_eq_true]
theorem isOn_e {b : Nat} (hb : b < 10) (T : Int32) (M : rM) (hp : 1 ≤ rg M 1303 0 b) : m12_isOn (nI b) T M = some (if eOn M b T then 1 else 0, M) := by
  unfold m12_isOn eOn eAt m12_isOn_36
  have hz : zbl 1 = true := rfl
  have hz0 : zbl 0 = true := rfl
  simp only [local_e hb, ezin_nI hb (by decide), ex_nI (show b < 2 ^ 31 by omega), znz_pos (show 0 < rg M 1303 0 b by lia), isIn_e, zbd_s, zbv_s, zgd_t, Bool.and_true, Bool.true_and, Bool.and_self, if_true, if_false, e_01, eq_self, Bool.false_eq_true]
  split <;> split <;> simp_all <;> rfl
theorem hear_c {b m : Nat} {MC : cM} {MR : rM} (g1 : eG1 m MC MR) (hb : b < 10) (j : Nat) (hj : j < 10) : m2_hearsBox b (nI j) MC = some (if eb (rg MR 1307 0 b) j then 1 else 0, MC) := by
  unfold m2_hearsBox
  simp only [blt_t hb, zshr1 (show j < 32 by omega), (g1.1 b hb).2.2.2.2.2.1.1, zbd_s, zbv_s, zgd_t, Bool.and_true, Bool.true_and, Bool.and_self, if_true, if_false, e_01, eq_self, Bool.false_eq_true]
  cases eb (rg MR 1307 0 b) j <;> rfl
theorem dead_c {b m : Nat} {MC : cM} {MR : rM} (g1 : eG1 m MC MR) (hb : b < 10) : m2_isDead b MC = some (if rg MR 1302 0 b ≤ 0 then 1 else 0, MC) := by
  unfold m2_isDead
  simp only [blt_t hb, (g1.1 b hb).2.2.1.1, zbd_s, zbv_s, zgd_t, Bool.and_true, Bool.true_and, Bool.and_self, if_true, if_false, e_01, eq_self, Bool.false_eq_true]
  by_cases h : rg MR 1302 0 b ≤ 0
  · rw [if_neg (Int32.not_lt.mpr h), if_pos h]
  · rw [if_pos (Int32.not_le.mp h), if_neg h]
theorem cnt_c {b m : Nat} {MC : cM} {MR : rM} (g1 : eG1 m MC MR) (g2 : eG2 m MC MR) (hm : m ≤ 10) (hb : b < m) : m2_countNow b MC = some (eCnt MR b, MC) := by
  have hb10 : b < 10 := by omega
  unfold m2_countNow eCnt
  simp only [blt_t hb10, dead_c g1 hb10, (g1.1 b hb10).1, eI_0 (show b < 2 ^ 31 by omega), (g2.1 b hb).2.1, zbd_s, zbv_s, zgd_t, Bool.and_true, Bool.true_and, Bool.and_self, if_true, if_false, e_01, eq_self, Bool.false_eq_true]
  by_cases h : b = 0
  · subst h; simp only [if_true]; split <;> simp
  · simp only [h, if_false]
theorem loc_c {b m : Nat} {MC : cM} {MR : rM} (g1 : eG1 m MC MR) (hb : b < 10) (T : Int32) : m2_localHour b T MC = some (eLoc MR b T, MC) := by
  unfold m2_localHour eLoc
  simp only [blt_t hb, (g1.1 b hb).2.2.2.1, (g1.1 b hb).2.2.2.2.1, show znz 100 = true from rfl, zbd_s, zbv_s, zgd_t, Bool.and_true, Bool.true_and, Bool.and_self, if_true, if_false, e_01, eq_self, Bool.false_eq_true]
theorem wakes_c {b m : Nat} {MC : cM} {MR : rM} (g1 : eG1 m MC MR) (hm : m ≤ 10) (hb : b < m) (T : Int32) : m2_rowWakes b T MC = some (if eOn MR b T then 1 else 0, MC) := by
  have hb10 : b < 10 := by omega
  obtain ⟨h3, h3', -, h4⟩ := g1.2.2.1 b hb
  unfold m2_rowWakes eOn eAt
  simp only [blt_t hb10, h3, h4, h3', loc_c g1 hb10, fmod_e (show 0 < rg MR 1303 0 b by lia), zbd_s, zbv_s, zgd_t, Bool.and_true, Bool.true_and, Bool.and_self, if_true, if_false, e_01, eq_self, Bool.false_eq_true]
  split <;> simp_all <;> split <;> rfl
theorem awake_c {b m : Nat} {MC : cM} {MR : rM} (g1 : eG1 m MC MR) (hm : m ≤ 10) (hb : b < m) (T : Int32) : m2_isAwake b T MC = some (if rg MR 1302 0 b ≤ 0 then 0 else if eOn MR b T then 1 else 0, MC) := by
  have hb10 : b < 10 := by omega
  unfold m2_isAwake
  simp only [blt_t hb10, dead_c g1 hb10, wakes_c g1 hm hb, zbd_s, zbv_s, zgd_t, Bool.and_true, Bool.true_and, Bool.and_self, if_true, if_false, e_01, eq_self, Bool.false_eq_true]
  split <;> simp
  cases eOn MR b T <;> simp
theorem o_at {n : Nat} {MC : cM} {MR : rM} (h : eRel n MC MR) (x1 x2 : Int32) : eO n (m11_at x1 x2 MC) (m12_at x1 x2 MR) := by
  have h' := h
  obtain ⟨m, t, hm, ht, g0, g1, g2, g3, g4, g5, g6, g7, g8, g9⟩ := h
  unfold m11_at m12_at
  rcases e_bx x1 m hm with hb | ⟨b, hb, rfl⟩
  · simp only [kn_n g0.1 hb, ib_n g0.2.1 hm hb, zbd_s, zbv_s, zgd_t, Bool.and_true, Bool.true_and, Bool.and_self, if_true, if_false, e_01, eq_self, Bool.false_eq_true]
    exact eO_same ⟨m, t, hm, ht, g0, g1, g2, g3, g4, g5, g6, g7, g8, g9⟩
  have hb10 : b < 10 := by omega
  simp only [kn_y g0.1 hm hb, ib_y g0.2.1 hm hb, of_y hb10, blt_t hb10, ezin_nI hb10 (show 10 < 2 ^ 31 by decide), ex_nI (show b < 2 ^ 31 by omega), zbd_s, zbv_s, zgd_t, Bool.and_true, Bool.true_and, Bool.and_self, if_true, if_false, e_01, eq_self, Bool.false_eq_true]
  have hon := (g1.2.2.1 b hb).2.1
  simp only [cnt_c g1 g2 hm hb, cntOf_e hb10, loc_c g1 hb10, local_e hb10, awake_c g1 hm hb, isOn_e hb10 _ _ hon, g0.2.2.1, g0.2.2.2.1, (g1.1 b hb10).2.2.1.1, (g2.1 b hb).1, zbd_s, zbv_s, zgd_t, Bool.and_true, Bool.true_and, Bool.and_self, if_true, if_false, e_01, eq_self, Bool.false_eq_true]
  obtain ⟨q, q1, q2, q3, q4⟩ := g3.1 b hb10
  simp only [q2, q3]
  split
  · exact eO_same h'
  split
  · exact eO_same h'
  split
  · exact eO_same h'
  split
  · exact eO_same h'
  split
  · by_cases hd : rg MR 1302 0 b ≤ 0
    · simp only [hd, zbd_s, zbv_s, zgd_t, Bool.and_true, Bool.true_and, Bool.and_self, if_true, if_false, e_01, eq_self, Bool.false_eq_true]; exact eO_same h'
    · simp only [hd, zbd_s, zbv_s, zgd_t, Bool.and_true, Bool.true_and, Bool.and_self, if_true, if_false, e_01, eq_self, Bool.false_eq_true]
      cases eOn MR b (nI t) <;> simp only [zbd_s, zbv_s, zgd_t, Bool.and_true, Bool.true_and, Bool.and_self, if_true, if_false, e_01, eq_self, Bool.false_eq_true] <;> exact eO_same h'
  split
  · exact eO_same h'
  · exact eO_same h'
