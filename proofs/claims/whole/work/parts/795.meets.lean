/-! conditions met, a sum started -/
def eMc (M : rM) (l b : Int32) (k : Nat) : Bool := if rg M 1343 0 (3 * k + 1) = 0 then decide (rg M 1343 0 (3 * k + 2) < (if rg M 1343 0 (3 * k) = 0 then l else b)) else decide ((if rg M 1343 0 (3 * k) = 0 then l else b) < rg M 1343 0 (3 * k + 2))
def eMa (M : rM) (l b : Int32) : Nat → Bool
  | 0 => true
  | k + 1 => eMa M l b k && eMc M l b k
theorem eMa_f {M : rM} {l b : Int32} {k c : Nat} (hk : k < c) (h : eMc M l b k = false) : eMa M l b c = false := by
  induction c with
  | zero => omega
  | succ c ih =>
    unfold eMa
    by_cases hc : k = c
    · rw [← hc, h, Bool.and_false]
    · rw [ih (by omega), Bool.false_and]
theorem n3_1 (k : Nat) : (3 : Int32) * nI k = nI (3 * k) := by rw [show (3 : Int32) = nI 3 from rfl, eI_mul]
theorem n3_2 (k : Nat) : nI (3 * k) + (1 : Int32) = nI (3 * k + 1) := ep1 _
theorem n3_3 (k : Nat) : nI (3 * k) + (2 : Int32) = nI (3 * k + 2) := by rw [show (2 : Int32) = nI 2 from rfl, eI_add]
theorem meets_e {c : Nat} {M : rM} (hc : c ≤ 8) (h : rg M 12 0 42 = nI c) (b l : Int32) : m12_meets b l M = some (if eMa M l b c then 1 else 0, M) := by
  unfold m12_meets
  refine eloop0 (fun f k => m12_meets_5 f b l (if eMa M l b k then 1 else 0) (nI k) M = some (if eMa M l b c then 1 else 0, M)) (m := c) (k0 := 0) (by omega) ?_ ?_ (zfu_gt (by omega))
  · intro f
    simp only [m12_meets_5, h, eI_le (show c < 2 ^ 31 by omega) (show c < 2 ^ 31 by omega), show (c ≤ c) = True from eq_true (by omega), zbd_s, zbv_s, zgd_t, Bool.and_true, Bool.true_and, Bool.and_self, if_true, if_false, e_01, eq_self, Bool.false_eq_true]
    cases eMa M l b c <;> rfl
  · intro f k hk0 hk ih
    have hst : ∀ v, v = (if eMa M l b (k + 1) then (1 : Int32) else 0) → m12_meets_91 (m12_meets_5 f) b l (nI k) v M = some (if eMa M l b c then 1 else 0, M) := by
      intro v hv
      unfold m12_meets_91
      rw [ep1, hv]; exact ih
    have h31 : ∀ (a : Bool) (t0 : Int32), a = eMa M l b k → t0 = (if rg M 1343 0 (3 * k) = 0 then l else b) → m12_meets_31 (m12_meets_5 f) b l (if a then 1 else 0) (nI k) t0 M = some (if eMa M l b c then 1 else 0, M) := by
      intro a t0 ha ht
      unfold m12_meets_31
      simp only [n3_1, n3_2, n3_3, ezin_nI (show 3 * k + 1 < 24 by omega) (show 24 < 2 ^ 31 by decide), ex_nI (show 3 * k + 1 < 2 ^ 31 by omega), ezin_nI (show 3 * k + 2 < 24 by omega) (show 24 < 2 ^ 31 by decide), ex_nI (show 3 * k + 2 < 2 ^ 31 by omega), zbd_s, zbv_s, zgd_t, Bool.and_true, Bool.true_and, Bool.and_self, if_true, if_false, e_01, eq_self, Bool.false_eq_true]
      have hs : eMa M l b (k + 1) = (a && eMc M l b k) := by rw [ha]; rfl
      cases a with
      | false =>
        simp only [zbd_s, zbv_s, zgd_t, Bool.and_true, Bool.true_and, Bool.and_self, if_true, if_false, e_01, eq_self, Bool.false_eq_true]
        exact hst 0 (by rw [hs]; rfl)
      | true =>
        have hs : eMa M l b (k + 1) = eMc M l b k := by rw [hs, Bool.true_and]
        have e10 : ((1 : Int32) = 0) = False := eq_false (by decide)
        simp only [e10, zbd_s, zbv_s, zgd_t, Bool.and_true, Bool.true_and, Bool.and_self, if_true, if_false, e_01, eq_self, Bool.false_eq_true]
        unfold eMc at hs
        rw [← ht] at hs
        by_cases h1 : rg M 1343 0 (3 * k + 1) = 0
        · rw [if_pos h1] at hs
          rw [if_pos h1]
          by_cases h2 : t0 ≤ rg M 1343 0 (3 * k + 2)
          · rw [if_pos h2]
            exact hst 0 (by rw [hs, decide_eq_false (Int32.not_lt.mpr h2)]; rfl)
          · rw [if_neg h2]
            exact hst 1 (by rw [hs, decide_eq_true (Int32.not_le.mp h2)]; rfl)
        · rw [if_neg h1] at hs
          rw [if_neg h1]
          by_cases h2 : rg M 1343 0 (3 * k + 2) ≤ t0
          · rw [if_pos h2]
            exact hst 0 (by rw [hs, decide_eq_false (Int32.not_lt.mpr h2)]; rfl)
          · rw [if_neg h2]
            exact hst 1 (by rw [hs, decide_eq_true (Int32.not_le.mp h2)]; rfl)
    simp only [m12_meets_5, h, eI_le (show c < 2 ^ 31 by omega) (show k < 2 ^ 31 by omega), show (c ≤ k) = False from eq_false (by omega), n3_1, ezin_nI (show 3 * k < 24 by omega) (show 24 < 2 ^ 31 by decide), ex_nI (show 3 * k < 2 ^ 31 by omega), zbd_s, zbv_s, zgd_t, Bool.and_true, Bool.true_and, Bool.and_self, if_true, if_false, e_01, eq_self, Bool.false_eq_true]
    by_cases h0 : rg M 1343 0 (3 * k) = 0
    · rw [if_pos h0]
      exact h31 _ l rfl (by rw [if_pos h0])
    · rw [if_neg h0]
      exact h31 _ b rfl (by rw [if_neg h0])
theorem met_c {c : Nat} {MC : cM} {MR : rM} (hc : c ≤ 8) (h : cg MC 7 1 2 = nI c) (hd : ∀ k, k < c → eCd 1 1343 k MC MR) (b l : Int32) : m7_isMetBy 1 l b MC = some (if eMa MR l b c then 1 else 0, MC) := by
  unfold m7_isMetBy
  have key : ∀ d k f, k + d = c → d < f → eMa MR l b k = true → m7_isMetBy_2 f 1 l b (nI k) MC = some (if eMa MR l b c then 1 else 0, MC) := by
    intro d
    induction d with
    | zero =>
      intro k f hk hf hm
      obtain ⟨f, rfl⟩ : ∃ g, f = g + 1 := ⟨f - 1, by omega⟩
      have : k = c := by omega
      subst this
      simp only [m7_isMetBy_2, show Nat.blt 1 2 = true from rfl, h, eI_le (show k < 2 ^ 31 by omega) (show k < 2 ^ 31 by omega), show (k ≤ k) = True from eq_true (by omega), hm, zbd_s, zbv_s, zgd_t, Bool.and_true, Bool.true_and, Bool.and_self, if_true, if_false, e_01, eq_self, Bool.false_eq_true]
    | succ d ih =>
      intro k f hk hf hm
      obtain ⟨f, rfl⟩ : ∃ g, f = g + 1 := ⟨f - 1, by omega⟩
      obtain ⟨c1, c2, c3⟩ := hd k (by omega)
      have hst : eMc MR l b k = true → m7_isMetBy_68 (m7_isMetBy_2 f) 1 l b (nI k) MC = some (if eMa MR l b c then 1 else 0, MC) := by
        intro hh
        unfold m7_isMetBy_68
        rw [ep1]
        exact ih (k + 1) f (by omega) (by omega) (by unfold eMa; rw [hm, hh]; rfl)
      have hno : eMc MR l b k = false → some ((0 : Int32), MC) = some (if eMa MR l b c then 1 else 0, MC) := by
        intro hh
        rw [eMa_f (show k < c by omega) hh]; rfl
      have h30 : ∀ t0, t0 = (if rg MR 1343 0 (3 * k) = 0 then l else b) → m7_isMetBy_30 (m7_isMetBy_2 f) 1 l b (nI k) t0 MC = some (if eMa MR l b c then 1 else 0, MC) := by
        intro t0 ht
        unfold m7_isMetBy_30
        simp only [show Nat.blt 1 2 = true from rfl, ezin_nI (show k < 8 by omega) (show 8 < 2 ^ 31 by decide), ex_nI (show k < 2 ^ 31 by omega), c3, zbd_s, zbv_s, zgd_t, Bool.and_true, Bool.true_and, Bool.and_self, if_true, if_false, e_01, eq_self, Bool.false_eq_true]
        unfold eMc at hst hno
        rw [← ht] at hst hno
        rcases c2 with ⟨r1, q1⟩ | ⟨r1, q1⟩
        · rw [q1, if_neg (by decide)]
          rw [if_pos r1] at hst hno
          by_cases h2 : rg MR 1343 0 (3 * k + 2) < t0
          · rw [if_pos h2]; exact hst (decide_eq_true h2)
          · rw [if_neg h2]; exact hno (decide_eq_false h2)
        · rw [q1, if_pos rfl]
          rw [if_neg (by rw [r1]; decide)] at hst hno
          by_cases h2 : t0 < rg MR 1343 0 (3 * k + 2)
          · rw [if_pos h2]; exact hst (decide_eq_true h2)
          · rw [if_neg h2]; exact hno (decide_eq_false h2)
      simp only [m7_isMetBy_2, show Nat.blt 1 2 = true from rfl, h, eI_le (show c < 2 ^ 31 by omega) (show k < 2 ^ 31 by omega), show (c ≤ k) = False from eq_false (by omega), show ((8 : Int32) ≤ nI k) = False from eq_false (by rw [show (8 : Int32) = nI 8 from rfl, eI_le (by omega) (by omega)]; omega), ezin_nI (show k < 8 by omega) (show 8 < 2 ^ 31 by decide), ex_nI (show k < 2 ^ 31 by omega), zbd_s, zbv_s, zgd_t, Bool.and_true, Bool.true_and, Bool.and_self, if_true, if_false, e_01, eq_self, Bool.false_eq_true]
      rcases c1 with ⟨r1, q1⟩ | ⟨r1, q1⟩
      · rw [if_pos q1]; exact h30 l (by rw [if_pos r1])
      · rw [if_neg (by rw [q1]; decide)]; exact h30 b (by rw [if_neg (by rw [r1]; decide)])
  exact key c 0 zfu (by omega) (zfu_gt (by omega)) rfl
/-- what box b says first at an epoch of hour t: nothing, or a loudness -/
def eVlu (M : rM) (c t b : Nat) : Option Int32 := if 16 ≤ rg M 1344 0 (24 * b + t % 24) then none else if eMa M (rg M 1344 0 (24 * b + t % 24)) (nI b) c then some (if rg M 1345 0 b = 16 then rg M 1344 0 (24 * b + t % 24) else rg M 1345 0 b) else none
def eSs (o : Option Int32) (b : Nat) : Nat → Int32
  | 0 => match o with
    | none => 0
    | some v => v
  | 1 => match o with
    | none => 0
    | some v => v
  | 2 => match o with
    | none => 0
    | some _ => 1
  | 3 => match o with
    | none => 0
    | some v => v
  | _ => match o with
    | none => 0
    | some _ => zshl 1 (nI b)
theorem eVlu_ok {M : rM} {c t b m : Nat} {MC : cM} (g1 : eG1 m MC M) (hb : b < 10) {v : Int32} (h : eVlu M c t b = some v) : ∃ a : Nat, a ≤ 15 ∧ v = nI a := by
  unfold eVlu at h
  have h1 := (g1.2.1 b (t % 24) hb (Nat.mod_lt _ (by decide))).2
  have h2 := (g1.1 b hb).2.2.2.2.2.2.1.2
  split at h
  · cases h
  · rename_i hl
    split at h
    · have hv := Option.some.inj h
      obtain ⟨a, ha, ea⟩ := eI_ofl (b := 16) h1.1 h1.2 (by decide)
      obtain ⟨d, hd, ed⟩ := eI_ofl (b := 16) h2.1 h2.2 (by decide)
      rw [ea] at hl hv
      have ha15 : a ≤ 15 := by
        rw [show (16 : Int32) = nI 16 from rfl, eI_le (by omega) (by omega)] at hl; omega
      split at hv
      · exact ⟨a, ha15, hv.symm⟩
      · rename_i hl2
        refine ⟨d, ?_, hv.symm.trans ed⟩
        rw [ed, show (16 : Int32) = nI 16 from rfl, eI_inj (by omega) (by omega)] at hl2
        omega
    · cases h
theorem loudAt_c {m b t : Nat} {MC : cM} {MR : rM} (g1 : eG1 m MC MR) (hb : b < 10) (ht : t < 24) : m2_loudAt b (nI t) MC = some (rg MR 1344 0 (24 * b + t), MC) := by
  unfold m2_loudAt
  rw [if_neg (fun h => by rw [show (0 : Int32) = nI 0 from rfl, eI_lt (by omega) (by omega)] at h; omega)]
  simp only [blt_t hb, show (nI t < 24) = True from eq_true (by rw [show (24 : Int32) = nI 24 from rfl, eI_lt (by omega) (by omega)]; omega), ezin_nI (show t < 24 by omega) (show 24 < 2 ^ 31 by decide), ex_nI (show t < 2 ^ 31 by omega), (g1.2.1 b t hb ht).1, zbd_s, zbv_s, zgd_t, Bool.and_true, Bool.true_and, Bool.and_self, if_true, if_false, e_01, eq_self, Bool.false_eq_true]
theorem startSum_c {m b t c : Nat} {MC : cM} {MR : rM} (g1 : eG1 m MC MR) (hb : b < 10) (ht : t ≤ 9000) (h35 : cg MC 3 0 5 = nI t) (hc : c ≤ 8) (h7 : cg MC 7 1 2 = nI c) (hd : ∀ k, k < c → eCd 1 1343 k MC MR) : ∃ MC', m0_startSum b MC = some MC' ∧ (match eVlu MR c t b with
    | none => MC' = MC
    | some v => eS5 (if b = 0 then 50 else b) MC MC' v v 1 v (zshl 1 (nI b))) := by
  have hz24 : zrem (nI t) 24 = nI (t % 24) := zrem_nI (by omega) (by decide) (by decide)
  have hm := Nat.mod_lt t (show 24 > 0 by decide)
  have id := (g1.1 b hb).1
  have n10 : ((1 : Int32) = 0) = False := eq_false (by decide)
  have hli := (g1.1 b hb).2.2.2.2.2.2.1.1
  have hlo := (g1.2.1 b (t % 24) hb hm).2
  have hcmp : (rg MR 1344 0 (24 * b + t % 24) = 16) = (16 ≤ rg MR 1344 0 (24 * b + t % 24)) := by
    refine propext ⟨fun h => by rw [h]; exact Int32.le_refl _, fun h => Int32.le_antisymm hlo.2 h⟩
  unfold m0_startSum
  simp only [show znz 24 = true from rfl, h35, hz24, blt_t hb, loudAt_c g1 hb hm, hcmp, id, met_c hc h7 hd, hli, zbd_s, zbv_s, zgd_t, Bool.and_true, Bool.true_and, Bool.and_self, if_true, if_false, e_01, eq_self, Bool.false_eq_true]
  unfold eVlu
  by_cases h16 : 16 ≤ rg MR 1344 0 (24 * b + t % 24)
  · rw [if_pos h16, if_pos h16]
    exact ⟨MC, rfl, rfl⟩
  · rw [if_neg h16, if_neg h16]
    rcases Bool.eq_false_or_eq_true (eMa MR (rg MR 1344 0 (24 * b + t % 24)) (nI b) c) with hm1 | hm1
    · simp only [hm1, n10, zbd_s, zbv_s, zgd_t, Bool.and_true, Bool.true_and, Bool.and_self, if_true, if_false, e_01, eq_self, Bool.false_eq_true]
      have fin : ∀ v, ∃ MC', m0_startSum_54 b v MC = some MC' ∧ eS5 (if b = 0 then 50 else b) MC MC' v v 1 v (zshl 1 (nI b)) := by
        intro v
        unfold m0_startSum_54 m0_startSum_73
        simp only [blt_t hb, id, eI_0 (show b < 2 ^ 31 by omega), zbd_s, zbv_s, zgd_t, Bool.and_true, Bool.true_and, Bool.and_self, if_true, if_false, e_01, eq_self, Bool.false_eq_true]
        by_cases hb0 : b = 0
        · rw [if_pos hb0, if_pos hb0]
          obtain ⟨M', a1, a2⟩ := start9_c (i := 50) (by omega) v (nI b) MC
          rw [show Nat.blt 50 51 = true from rfl, zgd_t, a1, zbv_s]
          exact ⟨M', rfl, a2⟩
        · rw [if_neg hb0, if_neg hb0]
          obtain ⟨M', a1, a2⟩ := start9_c (i := b) (by omega) v (nI b) MC
          rw [blt_t (show b < 51 by omega), zgd_t, a1, zbv_s]
          exact ⟨M', rfl, a2⟩
      by_cases h2 : rg MR 1345 0 b = 16
      · rw [if_pos h2]
        simp only [h2, zbd_s, zbv_s, zgd_t, Bool.and_true, Bool.true_and, Bool.and_self, if_true, if_false, e_01, eq_self, Bool.false_eq_true]
        exact fin _
      · rw [if_neg h2]
        simp only [h2, zbd_s, zbv_s, zgd_t, Bool.and_true, Bool.true_and, Bool.and_self, if_true, if_false, e_01, eq_self, Bool.false_eq_true]
        exact fin _
    · simp only [hm1, zbd_s, zbv_s, zgd_t, Bool.and_true, Bool.true_and, Bool.and_self, if_true, if_false, e_01, eq_self, Bool.false_eq_true]
      exact ⟨MC, rfl, rfl⟩
