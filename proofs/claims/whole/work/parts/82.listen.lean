/-! listening -/
theorem eNum_z {n : Nat} {p : Nat → Bool} : eNum n p = 0 ↔ ∀ j, j < n → p j = false := by
  induction n with
  | zero => exact ⟨fun _ j hj => absurd hj (by omega), fun _ => rfl⟩
  | succ n ih =>
    rw [eNum_s]
    constructor
    · intro h j hj
      have h1 : eNum n p = 0 := by omega
      by_cases hjn : j = n
      · subst hjn
        cases hp : p j
        · rfl
        · rw [hp] at h; simp at h
      · exact ih.mp h1 j (by omega)
    · intro h
      rw [ih.mpr (fun j hj => h j (by omega)), h n (by omega)]; rfl
theorem eSet_0 {n : Nat} {p : Nat → Bool} (hn : n ≤ 31) : eSet n p = 0 ↔ eNum n p = 0 := by
  rw [eNum_z]
  constructor
  · intro h j hj
    have := eb_set hn p j
    rw [h, eb_0] at this
    simpa [hj] using this.symm
  · intro h
    refine eb_ext (fun j hj => ?_)
    rw [eb_set hn, eb_0]
    by_cases hjn : j < n
    · rw [h j hjn, Bool.and_false]
    · simp [hjn]
theorem and_set {x y : Int32} {m : Nat} {S : Nat → Bool} (hm : m ≤ 10) (hy : ∀ j, j < 32 → eb y j = S j) (hS : ∀ j, m ≤ j → S j = false) : x &&& y = eSet m (fun a => S a && eb x a) := by
  refine eb_ext (fun j hj => ?_)
  rw [eb_and, eb_set (by omega), hy j hj]
  by_cases hjm : j < m
  · rw [decide_eq_true hjm, Bool.true_and, Bool.and_comm]
  · rw [hS j (by omega), decide_eq_false hjm, Bool.and_false, Bool.false_and]
def eHrd (m : Nat) (S : Nat → Bool) (N : rM) (b : Nat) : Nat := eNum m (fun a => S a && eb (rg N 1307 0 b) a)
theorem hear26_e {b m : Nat} {S : Nat → Bool} {U : Bool} {MR : rM} (k2 : Int32 → rM → Option rM) (hm : m ≤ 10) (hb : b < m) (h0 : rg MR 12 0 0 = nI m) (h24 : ∀ j, j < m → rg MR 1324 0 j = if S j then 1 else 0) (h26 : rg MR 1326 0 b = 0) (h22 : rg MR 1322 0 b = if U then 1 else 0) : ∃ X, m12_listen_26 k2 zfu (nI b) 0 MR = k2 (nI (b + 1)) (if (U && !S b && !decide (eHrd m S MR b = 0)) = true then rs X 1302 0 b (eSp (rg MR 1302 0 b) (rg MR 1312 0 3)) else X) ∧ eH [1326, 1327] MR X ∧ rg X 1326 0 b = nI (eHrd m S MR b) ∧ ∀ c, c ≠ b → rg X 1326 0 c = rg MR 1326 0 c := by
  have n10 : ((1 : Int32) = 0) = False := eq_false (by decide)
  have hb10 : b < 10 := by omega
  refine eloop (σ := rM) (fun f k M => ∃ X, m12_listen_26 k2 f (nI b) (nI k) M = k2 (nI (b + 1)) (if (U && !S b && !decide (eHrd m S MR b = 0)) = true then rs X 1302 0 b (eSp (rg MR 1302 0 b) (rg MR 1312 0 3)) else X) ∧ eH [1326, 1327] MR X ∧ rg X 1326 0 b = nI (eHrd m S MR b) ∧ ∀ c, c ≠ b → rg X 1326 0 c = rg MR 1326 0 c) (fun k M => eH [1326, 1327] MR M ∧ rg M 1326 0 b = nI (eNum k (fun a => S a && eb (rg MR 1307 0 b) a)) ∧ ∀ c, c ≠ b → rg M 1326 0 c = rg MR 1326 0 c) (m := m) (k0 := 0) (by omega) ?_ ?_ (zfu_gt (by omega)) ⟨eH_refl, h26, fun _ _ => rfl⟩
  · rintro f M ⟨i1, i2, i3⟩
    refine ⟨M, ?_, i1, i2, i3⟩
    have hle : eHrd m S MR b ≤ 10 := Nat.le_trans (eNum_le m _) hm
    have i2' : rg M 1326 0 b = nI (eHrd m S MR b) := i2
    rw [m12_listen_26, i1 12 0 0 rfl, h0, if_pos (by rw [eI_le (by omega) (by omega)]; omega)]
    simp only [ezin_nI (show b < 10 by omega) (show 10 < 2 ^ 31 by decide), ex_nI (show b < 2 ^ 31 by omega), i1 1322 0 b rfl, h22, i1 1324 0 b rfl, h24 b hb, i2', eI_pos (show eHrd m S MR b < 2 ^ 31 by omega), m12_listen_117, nx_k 3 (by omega), show zin 3 7 = true from rfl, i1 1312 0 3 rfl, spend_e hb10, i1 1302 0 b rfl, ep1, zbd_s, zbv_s, zgd_t, Bool.and_true, Bool.true_and, Bool.and_self, if_true, if_false, e_01, eq_self, Bool.false_eq_true]
    cases U
    · rfl
    · cases hS : S b
      · by_cases hz : eHrd m S MR b = 0
        · simp [hz, n10]
        · simp [hz, n10]
      · simp [n10]
  · rintro f k M hk0 hk ⟨i1, i2, i3⟩ ih
    have hk10 : k < 10 := by omega
    have ih' : ∀ M', eH [1326, 1327] MR M' → rg M' 1326 0 b = nI (eNum (k + 1) (fun a => S a && eb (rg MR 1307 0 b) a)) → (∀ c, c ≠ b → rg M' 1326 0 c = rg MR 1326 0 c) → ∃ X, m12_listen_26 k2 f (nI b) (nI (k + 1)) M' = k2 (nI (b + 1)) (if (U && !S b && !decide (eHrd m S MR b = 0)) = true then rs X 1302 0 b (eSp (rg MR 1302 0 b) (rg MR 1312 0 3)) else X) ∧ eH [1326, 1327] MR X ∧ rg X 1326 0 b = nI (eHrd m S MR b) ∧ ∀ c, c ≠ b → rg X 1326 0 c = rg MR 1326 0 c := fun M' h1 h2 h3 => ih M' ⟨h1, h2, h3⟩
    rw [m12_listen_26]
    simp only [i1 12 0 0 rfl, h0, eI_le (show m < 2 ^ 31 by omega) (show k < 2 ^ 31 by omega), show (m ≤ k) = False from eq_false (by omega), ezin_nI (show k < 10 by omega) (show 10 < 2 ^ 31 by decide), ex_nI (show k < 2 ^ 31 by omega), ezin_nI (show b < 10 by omega) (show 10 < 2 ^ 31 by decide), ex_nI (show b < 2 ^ 31 by omega), i1 1324 0 k rfl, h24 k hk, i1 1307 0 b rfl, isIn_y (show k < 32 by omega), m12_listen_73, i2, ep1, zbd_s, zbv_s, zgd_t, Bool.and_true, Bool.true_and, Bool.and_self, if_true, if_false, e_01, eq_self, Bool.false_eq_true]
    cases hS : S k
    · simp only [zbd_s, zbv_s, zgd_t, Bool.and_true, Bool.true_and, Bool.and_self, if_true, if_false, e_01, eq_self, Bool.false_eq_true]
      exact ih' M i1 (by rw [i2, eNum_s, hS]; rfl) i3
    · simp only [n10, zbd_s, zbv_s, zgd_t, Bool.and_true, Bool.true_and, Bool.and_self, if_true, if_false, e_01, eq_self, Bool.false_eq_true]
      cases hh : eb (rg MR 1307 0 b) k
      · simp only [zbd_s, zbv_s, zgd_t, Bool.and_true, Bool.true_and, Bool.and_self, if_true, if_false, e_01, eq_self, Bool.false_eq_true]
        exact ih' M i1 (by rw [i2, eNum_s, hS, hh]; rfl) i3
      · simp only [n10, zbd_s, zbv_s, zgd_t, Bool.and_true, Bool.true_and, Bool.and_self, if_true, if_false, e_01, eq_self, Bool.false_eq_true]
        refine ih' _ (eH_rs (eH_rs i1 rfl) rfl) ?_ (fun c hc => ?_)
        · rw [rg_rs, if_neg (by omega), rg_rs, if_pos ⟨rfl, rfl, rfl⟩, eNum_s, hS, hh]; rfl
        · rw [rg_rs, if_neg (by omega), rg_rs, if_neg (fun h => hc h.2.2)]; exact i3 c hc
theorem hear_cr {m t : Nat} {S : Nat → Bool} {MC : cM} {MR : rM} (hm : m ≤ 10) (g0 : eG0 m t MC MR) (g1 : eG1 m MC MR) (hup : eUp m MC MR) (hS9 : ∀ j, j < 32 → eb (cg MC 0 0 9) j = S j) (hS : ∀ j, m ≤ j → S j = false) (h24 : ∀ j, j < m → rg MR 1324 0 j = if S j then 1 else 0) : ∃ MC' MR', m0_spendHearing MC = some MC' ∧ m12_listen MR = some MR' ∧ eF [10202] MC MC' ∧ MC'.2 = MC.2 ∧ eH [1302, 1326, 1327] MR MR' ∧ eG1 m MC' MR' ∧ ∀ j, j < m → rg MR' 1326 0 j = nI (eHrd m S MR j) := by
  have n10 : ((1 : Int32) = 0) = False := eq_false (by decide)
  unfold m0_spendHearing m12_listen
  refine eloop (σ := cM × rM) (fun f k s => ∃ MC' MR', m0_spendHearing_2 f (nI k) s.1 = some MC' ∧ m12_listen_2 f (nI k) s.2 = some MR' ∧ eF [10202] MC MC' ∧ MC'.2 = MC.2 ∧ eH [1302, 1326, 1327] MR MR' ∧ eG1 m MC' MR' ∧ ∀ j, j < m → rg MR' 1326 0 j = nI (eHrd m S MR j)) (fun k s => eF [10202] MC s.1 ∧ s.1.2 = MC.2 ∧ eH [1302, 1326, 1327] MR s.2 ∧ eG1 m s.1 s.2 ∧ ∀ j, j < k → rg s.2 1326 0 j = nI (eHrd m S MR j)) (s := (MC, MR)) (m := m) (k0 := 0) (by omega) ?_ ?_ (zfu_gt (by omega)) ⟨eF_refl, rfl, eH_refl, g1, fun j hj => absurd hj (by omega)⟩
  · rintro f ⟨M, N⟩ ⟨i1, i2, i3, i4, i5⟩
    refine ⟨M, N, ?_, ?_, i1, i2, i3, i4, i5⟩
    · dsimp only
      rw [m0_spendHearing_2, i1 3 0 4 rfl, g0.1, if_pos (by rw [eI_le (by omega) (by omega)]; omega)]
    · dsimp only
      rw [m12_listen_2, i3 12 0 0 rfl, g0.2.1, if_pos (by rw [eI_le (by omega) (by omega)]; omega)]
  · rintro f k ⟨M, N⟩ hk0 hk ⟨i1, i2, i3, i4, i5⟩ ih
    dsimp only at i1 i2 i3 i4 i5 ⊢
    have hk10 : k < 10 := by omega
    have e34 : cg M 3 0 4 = nI m := by rw [i1 3 0 4 rfl, g0.1]
    have e12 : rg N 12 0 0 = nI m := by rw [i3 12 0 0 rfl, g0.2.1]
    have e08 : cg M 0 0 8 = cg MC 0 0 8 := i1 0 0 8 rfl
    have e09 : cg M 0 0 9 = cg MC 0 0 9 := i1 0 0 9 rfl
    have e29 : cg M 2 k 9 = rg MR 1307 0 k := by rw [(i4.1 k hk10).2.2.2.2.2.1.1, i3 1307 0 k rfl]
    obtain ⟨N0, hN0⟩ : ∃ X, X = rs (rs N 1326 0 k 0) 1327 0 k (-1) := ⟨_, rfl⟩
    have f0 : eH [1326, 1327] N N0 := by rw [hN0]; exact (by repeat (first | exact eH_refl | refine eH_rs ?_ rfl | refine eH_rsl ?_))
    have hd : eHrd m S N0 k = eHrd m S MR k := by unfold eHrd; rw [f0 1307 0 k rfl, i3 1307 0 k rfl]
    obtain ⟨X, x1, x2, x3, x4⟩ := hear26_e (MR := N0) (S := S) (U := eb (cg MC 0 0 8) k) (m12_listen_2 f) hm hk (by rw [f0 12 0 0 rfl, e12]) (fun j hj => by rw [f0 1324 0 j rfl, i3 1324 0 j rfl]; exact h24 j hj) (by rw [hN0, rg_rs, if_neg (by omega), rg_rs, if_pos ⟨rfl, rfl, rfl⟩]) (by rw [f0 1322 0 k rfl, i3 1322 0 k rfl]; exact (hup k hk).2)
    rw [hd] at x1 x3
    have c26 : ∀ c, c ≠ k → rg X 1326 0 c = rg N 1326 0 c := fun c hc => by rw [x4 c hc, hN0, rg_rs, if_neg (by omega), rg_rs, if_neg (fun h => hc h.2.2)]
    have s3 : rg N0 1312 0 3 = rg MR 1312 0 3 := by rw [f0 1312 0 3 rfl, i3 1312 0 3 rfl]
    have sC : cg M 401 0 3 = rg MR 1312 0 3 := by rw [i1 401 0 3 rfl]; exact (g0.2.2.2.2 3 (by omega)).1
    have pw := (i4.1 k hk10).2.2.1
    have pw0 : rg N0 1302 0 k = rg N 1302 0 k := f0 1302 0 k rfl
    have fX : eH [1326, 1327] N X := eH_trans f0 x2
    rw [s3, pw0] at x1
    have nar : eSet m (fun a => S a && eb (rg MR 1307 0 k) a) = 0 ↔ eHrd m S MR k = 0 := eSet_0 (by omega)
    have hbit : eb (cg MC 0 0 8 &&& (cg MC 0 0 9 ^^^ -1)) k = (eb (cg MC 0 0 8) k && !S k) := by
      rw [eb_and, eb_xor, eb_m1 (by omega), hS9 k (by omega), Bool.xor_true]
    have five : ∀ N', (∀ j, rg N' 1326 0 j = rg X 1326 0 j) → ∀ j, j < k + 1 → rg N' 1326 0 j = nI (eHrd m S MR j) := by
      intro N' hh j hj
      rw [hh]
      by_cases hjk : j = k
      · rw [hjk]; exact x3
      · rw [c26 j hjk]; exact i5 j (by omega)
    have skip : ∃ MC' MR', m0_spendHearing_2 f (nI (k + 1)) M = some MC' ∧ m12_listen_2 f (nI (k + 1)) X = some MR' ∧ eF [10202] MC MC' ∧ MC'.2 = MC.2 ∧ eH [1302, 1326, 1327] MR MR' ∧ eG1 m MC' MR' ∧ ∀ j, j < m → rg MR' 1326 0 j = nI (eHrd m S MR j) :=
      ih (M, X) ⟨i1, i2, eH_trans i3 (eH_mono fX rfl), eG1_fr i4 (eF_refl (K := [])) fX rfl rfl, five X (fun _ => rfl)⟩
    rw [m0_spendHearing_2, m12_listen_2]
    rw [hN0] at x1
    simp only [e34, e12, eI_le (show m < 2 ^ 31 by omega) (show k < 2 ^ 31 by omega), show (m ≤ k) = False from eq_false (by omega), of_y hk10, blt_t hk10, ezin_nI (show k < 10 by omega) (show 10 < 2 ^ 31 by decide), ex_nI (show k < 2 ^ 31 by omega), e08, e09, isIn_c (show k < 32 by omega), hbit, e29, and_set (x := rg MR 1307 0 k) hm hS9 hS, nar, x1, m0_spendHearing_67, ep1, zbd_s, zbv_s, zgd_t, Bool.and_true, Bool.true_and, Bool.and_self, if_true, if_false, e_01, eq_self, Bool.false_eq_true]
    cases hu : eb (cg MC 0 0 8) k
    · simp only [Bool.false_and, zbd_s, zbv_s, zgd_t, Bool.and_true, Bool.true_and, Bool.and_self, if_true, if_false, e_01, eq_self, Bool.false_eq_true]; exact skip
    · cases hs : S k
      · by_cases hz : eHrd m S MR k = 0
        · simp only [hz, n10, decide_true, Bool.not_true, Bool.not_false, Bool.and_false, Bool.true_and, zbd_s, zbv_s, zgd_t, Bool.and_true, Bool.true_and, Bool.and_self, if_true, if_false, e_01, eq_self, Bool.false_eq_true]; exact skip
        · simp only [hz, n10, decide_false, Bool.not_false, Bool.true_and, zbd_s, zbv_s, zgd_t, Bool.and_true, Bool.true_and, Bool.and_self, if_true, if_false, e_01, eq_self, Bool.false_eq_true]
          obtain ⟨w, hw⟩ : ∃ w, w = eSp (rg N 1302 0 k) (rg MR 1312 0 3) := ⟨_, rfl⟩
          have hw0 : 0 ≤ w ∧ w ≤ 30000 := by rw [hw]; exact eSp_ok pw.2.1 pw.2.2 (g0.2.2.2.2 3 (by omega)).2.1
          simp only [show (3 : Int32) = nI 3 from rfl, set_c (show 3 < 7 by omega), sC, spend_c hk10, pw.1, ← hw, zbd_s, zbv_s, zgd_t, Bool.and_true, Bool.true_and, Bool.and_self, if_true, if_false, e_01, eq_self, Bool.false_eq_true]
          refine ih (cs M 2 k 2 w, rs X 1302 0 k w) ⟨eF_cs i1 rfl, i2, eH_rs (eH_trans i3 (eH_mono fX rfl)) rfl, eG1_fr (eG1_pow (b := k) i4 hw0) (eF_refl (K := [])) (eH_both fX 1302 0 k w) rfl rfl, five _ (fun j => by rw [rg_rs, if_neg (by omega)])⟩
      · simp only [n10, Bool.not_true, Bool.and_false, Bool.false_and, zbd_s, zbv_s, zgd_t, Bool.and_true, Bool.true_and, Bool.and_self, if_true, if_false, e_01, eq_self, Bool.false_eq_true]; exact skip
