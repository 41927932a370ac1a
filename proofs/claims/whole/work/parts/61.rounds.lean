/-! rounds -/
def eBst (p : Nat → Bool) (c : Nat → Int32) : Nat → Option Nat
  | 0 => none
  | k + 1 => if p k then (match eBst p c k with
    | none => some k
    | some a => if c k < c a then some k else some a) else eBst p c k
theorem eBst_s (p : Nat → Bool) (c : Nat → Int32) (k : Nat) : eBst p c (k + 1) = if p k then (match eBst p c k with
    | none => some k
    | some a => if c k < c a then some k else some a) else eBst p c k := rfl
theorem eBst_ok (p : Nat → Bool) (c : Nat → Int32) (k a : Nat) (h : eBst p c k = some a) : a < k ∧ p a = true := by
  induction k generalizing a with
  | zero => cases h
  | succ k ih =>
    rw [eBst_s] at h
    split at h
    · rename_i hp
      cases hb : eBst p c k with
      | none => rw [hb] at h; cases h; exact ⟨Nat.lt_succ_self _, hp⟩
      | some a' =>
        rw [hb] at h
        have := ih a' hb
        dsimp only at h
        split at h <;> cases h
        · exact ⟨Nat.lt_succ_self _, hp⟩
        · exact ⟨by omega, this.2⟩
    · have := ih a h
      exact ⟨by omega, this.2⟩
def eCand (M : rM) (b j : Nat) : Bool := !(decide (j = b)) && (eLiv M j && (!(decide (eCnt M j = -1)) && (eMate M b j && decide (eCnt M j < 9))))
def eBI (o : Option Nat) : Int32 := match o with
  | none => -1
  | some a => nI a
def eBC (c : Nat → Int32) (o : Option Nat) : Int32 := match o with
  | none => -1
  | some a => c a + 1
def eNc (m : Nat) (M : rM) (b : Nat) : Int32 := if eLiv M b then eBC (eCnt M) (eBst (eCand M b) (eCnt M) m) else rg M 1308 0 b
def eNp (m : Nat) (M : rM) (b : Nat) : Int32 := if eLiv M b then eBI (eBst (eCand M b) (eCnt M) m) else rg M 1309 0 b
def eChg (m : Nat) (M : rM) (b : Nat) : Bool := decide (1 ≤ b) && (eLiv M b && (!(decide (eNc m M b = rg M 1308 0 b)) || !(decide (eNp m M b = rg M 1309 0 b))))
theorem nI_m1 {a : Nat} (h : a < 2 ^ 31) : (nI a = -1) = False := by
  refine eq_false (fun hc => ?_)
  have := congrArg Int32.toInt hc
  rw [nI_toInt h, show (-1 : Int32).toInt = -1 from by decide] at this
  omega
theorem gr50_e {m b : Nat} (hm : m ≤ 10) (hb : b < 10) (k4 : Int32 → Int32 → rM → Option (Int32 × rM)) (x1 : Int32) (M : rM) (h0 : rg M 12 0 0 = nI m) : m12_goRound_50 k4 zfu x1 (nI b) (-1) 0 M = m12_goRound_171 k4 x1 (nI b) (eBI (eBst (eCand M b) (eCnt M) m)) (nI b) (eBC (eCnt M) (eBst (eCand M b) (eCnt M) m)) M := by
  refine eloop0 (fun f k => m12_goRound_50 k4 f x1 (nI b) (eBI (eBst (eCand M b) (eCnt M) k)) (nI k) M = m12_goRound_171 k4 x1 (nI b) (eBI (eBst (eCand M b) (eCnt M) m)) (nI b) (eBC (eCnt M) (eBst (eCand M b) (eCnt M) m)) M) (Nat.zero_le m) ?_ ?_ (zfu_gt (by omega))
  · intro f
    simp only [m12_goRound_50, h0, eI_le (show m < 2 ^ 31 by omega) (show m < 2 ^ 31 by omega), Nat.le_refl, zbd_s, zbv_s, zgd_t, Bool.and_true, Bool.true_and, Bool.and_self, if_true, if_false, e_01, eq_self, Bool.false_eq_true]
    cases hB : eBst (eCand M b) (eCnt M) m with
    | none => simp [eBI, eBC]
    | some a =>
      have ha := (eBst_ok _ _ _ _ hB).1
      simp only [eBI, eBC, nI_m1 (show a < 2 ^ 31 by omega), if_false, cntOf_e (show a < 10 by omega), zbd_s]
  · intro f k _ hk ih
    have hk10 : k < 10 := by omega
    have hz : zin (nI k) 10 = true := ezin_nI hk10 (by decide)
    have h143 : ∀ t0 M', m12_goRound_143 k4 (m12_goRound_50 k4 f) x1 (nI b) (nI k) t0 M' = m12_goRound_50 k4 f x1 (nI b) t0 (nI (k + 1)) M' := fun t0 M' => by
      unfold m12_goRound_143; rw [ep1]
    have h111 : m12_goRound_111 k4 (m12_goRound_50 k4 f) x1 (nI b) (eBI (eBst (eCand M b) (eCnt M) k)) (nI k) (if eCand M b k then 1 else 0) M = m12_goRound_50 k4 f x1 (nI b) (eBI (eBst (eCand M b) (eCnt M) (k + 1))) (nI (k + 1)) M := by
      unfold m12_goRound_111
      simp only [h143, ei_1, eBst_s]
      cases hc : eCand M b k with
      | false => simp
      | true =>
        cases hB : eBst (eCand M b) (eCnt M) k with
        | none => simp [eBI]
        | some a =>
          have ha := (eBst_ok _ _ _ _ hB).1
          simp only [eBI, nI_m1 (show a < 2 ^ 31 by omega), cntOf_e hk10, cntOf_e (show a < 10 by omega), zbd_s, zbv_s, zgd_t, Bool.and_true, Bool.true_and, Bool.and_self, if_true, if_false, e_01, eq_self, Bool.false_eq_true]
          by_cases hl : eCnt M k < eCnt M a
          · simp [hl, Int32.not_le.mpr hl]
          · simp [hl, Int32.not_lt.mp hl]
    rw [← ih, ← h111]
    simp only [m12_goRound_50, h0, eI_le (show m < 2 ^ 31 by omega) (show k < 2 ^ 31 by omega), show (m ≤ k) = False from eq_false (by omega), eI_inj (show k < 2 ^ 31 by omega) (show b < 2 ^ 31 by omega), hz, ex_nI (show k < 2 ^ 31 by omega), cntOf_e hk10, mates_e hb hk10, zbd_s, zbv_s, zgd_t, Bool.and_true, Bool.true_and, Bool.and_self, if_true, if_false, e_01, eq_self, Bool.false_eq_true]
    unfold eCand eLiv
    by_cases c1 : k = b
    · simp [c1]
    by_cases c2 : rg M 1302 0 k ≤ 0
    · simp [c1, c2]
    by_cases c3 : eCnt M k = -1
    · simp [c1, c2, c3]
    by_cases c4 : eMate M b k = true
    · by_cases c5 : eCnt M k < 9
      · have : ¬ (9 : Int32) ≤ eCnt M k := Int32.not_le.mpr c5
        simp [c1, c2, c3, c4, c5, this]
      · have : (9 : Int32) ≤ eCnt M k := Int32.not_lt.mp c5
        simp [c1, c2, c3, c4, c5, this]
    · simp [c1, c2, c3, c4]
