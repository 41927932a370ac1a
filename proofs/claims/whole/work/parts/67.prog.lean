/-! programs -/
theorem pv_c {b p : Nat} (hb : b < 10) (hp : p < 8) (M : cM) : m2_partValue b (nI p) M = some (cg M 317 b p, M) := by
  unfold m2_partValue
  simp only [blt_t hb, show (nI p < 0) = False from eq_false (by rw [show (0 : Int32) = nI 0 from rfl, eI_lt (by omega) (by omega)]; omega), show (nI p < 8) = True from eq_true (by rw [show (8 : Int32) = nI 8 from rfl, eI_lt (by omega) (by omega)]; omega), ezin_nI (show p < 8 by omega) (show 8 < 2 ^ 31 by decide), ex_nI (show p < 2 ^ 31 by omega), zbd_s, zbv_s, zgd_t, Bool.and_true, Bool.true_and, Bool.and_self, if_true, if_false, e_01, eq_self, Bool.false_eq_true]
theorem tp_c {b p : Nat} (hb : b < 10) (hp : p < 8) (v : Int32) (M : cM) : m2_takePart b (nI p) v M = some (cs (cs M 2 b 16 (cg M 2 b 16 ||| zshl 1 (nI p))) 317 b p v) := by
  unfold m2_takePart
  simp only [blt_t hb, show (nI p < 0) = False from eq_false (by rw [show (0 : Int32) = nI 0 from rfl, eI_lt (by omega) (by omega)]; omega), show (nI p < 8) = True from eq_true (by rw [show (8 : Int32) = nI 8 from rfl, eI_lt (by omega) (by omega)]; omega), ezin_nI (show p < 8 by omega) (show 8 < 2 ^ 31 by decide), ex_nI (show p < 2 ^ 31 by omega), zbd_s, zbv_s, zgd_t, Bool.and_true, Bool.true_and, Bool.and_self, if_true, if_false, e_01, eq_self, Bool.false_eq_true]
def eAdd : Nat → (Nat → Int32) → Int32
  | 0, _ => 0
  | k + 1, f => eAdd k f + f k
theorem eAdd_s (k : Nat) (f : Nat → Int32) : eAdd (k + 1) f = eAdd k f + f k := rfl
theorem eAdd_congr {n : Nat} {f g : Nat → Int32} (h : ∀ k, k < n → g k = f k) : eAdd n g = eAdd n f := by
  induction n with
  | zero => rfl
  | succ n ih => rw [eAdd_s, eAdd_s, ih (fun k hk => h k (by omega)), h n (by omega)]
theorem sum_c {b ps : Nat} {M : cM} (hb : b < 10) (h : cg M 6 0 2 = nI ps) (hp : ps ≤ 8) : m6_sumOfParts b M = some (eAdd ps (cg M 317 b), M) := by
  unfold m6_sumOfParts
  refine eloop0 (fun f k => m6_sumOfParts_4 f b (eAdd k (cg M 317 b)) (nI k) M = some (eAdd ps (cg M 317 b), M)) (Nat.zero_le ps) ?_ ?_ (zfu_gt (by omega))
  · intro f
    simp only [m6_sumOfParts_4, h, eI_le (show ps < 2 ^ 31 by omega) (show ps < 2 ^ 31 by omega), show (ps ≤ ps) = True from eq_true (by omega), zbd_s, zbv_s, zgd_t, Bool.and_true, Bool.true_and, Bool.and_self, if_true, if_false, e_01, eq_self, Bool.false_eq_true]
  · intro f k _ hk ih
    simp only [m6_sumOfParts_4, h, eI_le (show ps < 2 ^ 31 by omega) (show k < 2 ^ 31 by omega), show (ps ≤ k) = False from eq_false (by omega), blt_t hb, pv_c hb (show k < 8 by omega), ep1, zbd_s, zbv_s, zgd_t, Bool.and_true, Bool.true_and, Bool.and_self, if_true, if_false, e_01, eq_self, Bool.false_eq_true]
    exact ih
def eSnd (M : rM) (ps b : Nat) : Bool := decide (ps ≠ 0) && (decide (rg M 1362 0 b = zshl 1 (nI ps) - 1) && decide (zrem (eAdd ps (fun p => rg M 1364 0 (8 * b + p))) 251 = rg M 12 0 61))
theorem sound_c {n m b pn ps : Nat} {MC : cM} {MR : rM} (g7 : eG7 n m MC MR) (hb : b < 10) (hps : ps ≤ 8) (h0 : pn = 0 ↔ ps = 0) (hn : pn < 2 ^ 31) (h1 : cg MC 6 0 1 = nI pn) (h2 : cg MC 6 0 2 = nI ps) (h3 : cg MC 6 0 3 = rg MR 12 0 61) : m6_isSound b MC = some (if eSnd MR ps b then 1 else 0, MC) := by
  unfold m6_isSound eSnd
  have hs := eAdd_congr (n := ps) (f := fun p => rg MR 1364 0 (8 * b + p)) (g := cg MC 317 b) (fun p hp => (g7.2.2 b p hb (by omega)).1)
  simp only [h1, eI_0 hn, h0, h2, blt_t hb, (g7.2.1 b hb).1, sum_c hb h2 hps, hs, h3, show znz 251 = true from rfl, zbd_s, zbv_s, zgd_t, Bool.and_true, Bool.true_and, Bool.and_self, if_true, if_false, e_01, eq_self, Bool.false_eq_true]
  by_cases c1 : ps = 0
  · simp [c1]
  · by_cases c2 : rg MR 1362 0 b = zshl 1 (nI ps) - 1
    · by_cases c3 : zrem (eAdd ps (fun p => rg MR 1364 0 (8 * b + p))) 251 = rg MR 12 0 61
      · simp [c1, c2, c3]
      · simp [c1, c2, c3]
    · simp [c1, c2]
theorem sound_e {b ps : Nat} {MR : rM} (hb : b < 10) (hps : ps ≤ 8) (h2 : rg MR 12 0 60 = nI ps) : m12_isSound (nI b) MR = some (if eSnd MR ps b then 1 else 0, MR) := by
  unfold m12_isSound
  refine eloop0 (fun f k => m12_isSound_4 f (nI b) (eAdd k (fun p => rg MR 1364 0 (8 * b + p))) (nI k) MR = some (if eSnd MR ps b then 1 else 0, MR)) (Nat.zero_le ps) ?_ ?_ (zfu_gt (by omega))
  · intro f
    simp only [m12_isSound_4, h2, eI_le (show ps < 2 ^ 31 by omega) (show ps < 2 ^ 31 by omega), show (ps ≤ ps) = True from eq_true (by omega), eI_pos (show ps < 2 ^ 31 by omega), ezin_nI (show b < 10 by omega) (show 10 < 2 ^ 31 by decide), ex_nI (show b < 2 ^ 31 by omega), show znz 251 = true from rfl, eSnd, zbd_s, zbv_s, zgd_t, Bool.and_true, Bool.true_and, Bool.and_self, if_true, if_false, e_01, eq_self, Bool.false_eq_true]
    by_cases c1 : ps = 0
    · simp [c1]
    · by_cases c2 : rg MR 1362 0 b = zshl 1 (nI ps) - 1
      · by_cases c3 : zrem (eAdd ps (fun p => rg MR 1364 0 (8 * b + p))) 251 = rg MR 12 0 61
        · simp [c1, c2, c3]
        · simp [c1, c2, c3]
      · simp [c1, c2]
  · intro f k _ hk ih
    simp only [m12_isSound_4, h2, eI_le (show ps < 2 ^ 31 by omega) (show k < 2 ^ 31 by omega), show (ps ≤ k) = False from eq_false (by omega), e8, eI_add, ezin_nI (show 8 * b + k < 80 by omega) (show 80 < 2 ^ 31 by decide), ex_nI (show 8 * b + k < 2 ^ 31 by omega), ep1, zbd_s, zbv_s, zgd_t, Bool.and_true, Bool.true_and, Bool.and_self, if_true, if_false, e_01, eq_self, Bool.false_eq_true]
    exact ih
theorem o_has {n : Nat} {MC : cM} {MR : rM} (hn : n < 600) (h : eRel n MC MR) (x1 x2 : Int32) : eO n (m11_has x1 x2 MC) (m12_has x1 x2 MR) := by
  have h' := h
  obtain ⟨m, t, hm, ht, g0, g1, g2, g3, g4, g5, g6, g7, g8, g9⟩ := h
  have g7' := g7
  obtain ⟨⟨pn, ps, p1, p2, p3, p4, p5, p6, p7, p8⟩, p9, p10⟩ := g7'
  unfold m11_has m12_has
  rcases e_bx x1 m hm with hb | ⟨b, hb, rfl⟩
  · simp only [kn_n g0.1 hb, ib_n g0.2.1 hm hb, zbd_s, zbv_s, zgd_t, Bool.and_true, Bool.true_and, Bool.and_self, if_true, if_false, e_01, eq_self, Bool.false_eq_true]
    exact eO_same ⟨m, t, hm, ht, g0, g1, g2, g3, g4, g5, g6, g7, g8, g9⟩
  have hb10 : b < 10 := by omega
  simp only [kn_y g0.1 hm hb, ib_y g0.2.1 hm hb, of_y hb10, blt_t hb10, ezin_nI hb10 (show 10 < 2 ^ 31 by decide), ex_nI (show b < 2 ^ 31 by omega), zbd_s, zbv_s, zgd_t, Bool.and_true, Bool.true_and, Bool.and_self, if_true, if_false, e_01, eq_self, Bool.false_eq_true]
  simp only [sound_c g7 hb10 p2 p3 (by omega) p4 p6 p8, sound_e hb10 p2 p7, (p9 b hb10).1, (p9 b hb10).2.1, ei_1, show ((1 : Int32) = OfNat.ofNat 1) = True from eq_true rfl, zbd_s, zbv_s, zgd_t, Bool.and_true, Bool.true_and, Bool.and_self, if_true, if_false, e_01, eq_self, Bool.false_eq_true]
  split
  · exact eO_same h'
  split
  · cases eSnd MR ps b <;> simp <;> exact eO_same h'
  split
  · exact eO_same h'
  · exact eO_same h'
theorem o_tear {n : Nat} {MC : cM} {MR : rM} (h : eRel n MC MR) (x1 x2 x3 : Int32) : eO n (m11_tear x1 x2 x3 MC) (m12_tear x1 x2 x3 MR) := by
  obtain ⟨m, t, hm, ht, g0, g1, g2, g3, g4, g5, g6, g7, g8, g9⟩ := h
  have g7' := g7
  obtain ⟨⟨pn, ps, p1, p2, p3, p4, p5, p6, p7, p8⟩, p9, p10⟩ := g7'
  unfold m11_tear m12_tear
  rcases e_bx x1 m hm with hb | ⟨b, hb, rfl⟩
  · simp only [kn_n g0.1 hb, ib_n g0.2.1 hm hb, zbd_s, zbv_s, zgd_t, Bool.and_true, Bool.true_and, Bool.and_self, if_true, if_false, e_01, eq_self, Bool.false_eq_true]
    exact eO_same ⟨m, t, hm, ht, g0, g1, g2, g3, g4, g5, g6, g7, g8, g9⟩
  have hb10 : b < 10 := by omega
  simp only [kn_y g0.1 hm hb, ib_y g0.2.1 hm hb, of_y hb10, blt_t hb10, ezin_nI hb10 (show 10 < 2 ^ 31 by decide), ex_nI (show b < 2 ^ 31 by omega), zbd_s, zbv_s, zgd_t, Bool.and_true, Bool.true_and, Bool.and_self, if_true, if_false, e_01, eq_self, Bool.false_eq_true]
  simp only [eI_0 (show b < 2 ^ 31 by omega)]
  by_cases hb0 : b = 0
  · simp only [hb0, if_true]
    exact eO_same ⟨m, t, hm, ht, g0, g1, g2, g3, g4, g5, g6, g7, g8, g9⟩
  have eps : ∀ k, ps = k + 1 → nI ps - (1 : Int32) = nI k := by
    intro k hk; subst hk; rw [← eI_add]; exact Int32.add_sub_cancel _ _
  simp only [hb0, if_false]
  rcases (Classical.em (0 ≤ x2 ∧ x2 < nI ps)).symm with h2 | h2
  · have e1 : m6_hasPart x2 MC = some (0, MC) := by
      unfold m6_hasPart
      rw [p6]
      by_cases c1 : x2 < 0
      · simp [c1]
      · have c2 : nI ps ≤ x2 := Int32.not_lt.mp (fun hc => h2 ⟨Int32.not_lt.mp c1, hc⟩)
        simp [c1, c2]
    have e2 : m12_in x2 0 (nI ps - 1) MR = some (0, MR) := by
      refine in_n (fun hc => h2 ⟨hc.1, ?_⟩)
      by_cases hz : ps = 0
      · subst hz
        exact absurd (Int32.le_trans hc.1 hc.2) (by decide)
      · rw [eps (ps - 1) (by omega)] at hc
        obtain ⟨a, ha, rfl⟩ := eI_ofl hc.1 hc.2 (by omega)
        rw [eI_lt (by omega) (by omega)]; omega
    simp only [e1, e2, p7, zbd_s, zbv_s, zgd_t, Bool.and_true, Bool.true_and, Bool.and_self, if_true, if_false, e_01, eq_self, Bool.false_eq_true]
    exact eO_same ⟨m, t, hm, ht, g0, g1, g2, g3, g4, g5, g6, g7, g8, g9⟩
  obtain ⟨p, hp, rfl⟩ := eI_ofb h2.1 h2.2 (by omega)
  have hp8 : p < 8 := by omega
  have e1 : m6_hasPart (nI p) MC = some (1, MC) := by
    unfold m6_hasPart
    rw [p6, if_neg, if_neg]
    · rw [eI_le (by omega) (by omega)]; omega
    · rw [show (0 : Int32) = nI 0 from rfl, eI_lt (by omega) (by omega)]; omega
  have e2 : m12_in (nI p) 0 (nI ps - 1) MR = some (1, MR) := by
    rw [eps (ps - 1) (by omega)]
    refine in_y h2.1 ?_
    rw [eI_le (by omega) (by omega)]; omega
  simp only [e1, e2, p7, zbd_s, zbv_s, zgd_t, Bool.and_true, Bool.true_and, Bool.and_self, if_true, if_false, e_01, eq_self, Bool.false_eq_true]
  rcases (Classical.em ((0 : Int32) ≤ x3 ∧ x3 ≤ 255)).symm with h3 | h3
  · simp only [out_y h3, in_n h3, zbd_s, zbv_s, zgd_t, Bool.and_true, Bool.true_and, Bool.and_self, if_true, if_false, e_01, eq_self, Bool.false_eq_true]
    exact eO_same ⟨m, t, hm, ht, g0, g1, g2, g3, g4, g5, g6, g7, g8, g9⟩
  simp only [out_n h3.1 h3.2, in_y h3.1 h3.2, zbd_s, zbv_s, zgd_t, Bool.and_true, Bool.true_and, Bool.and_self, if_true, if_false, e_01, eq_self, Bool.false_eq_true]
  simp only [zshr1_0 (show p < 32 by omega), isIn_y (show p < 32 by omega), ei_1, pv_c hb10 hp8, tp_c hb10 hp8, (p9 b hb10).1, e8, eI_add, ezin_nI (show 8 * b + p < 80 by omega) (show 80 < 2 ^ 31 by decide), ex_nI (show 8 * b + p < 2 ^ 31 by omega), zbd_s, zbv_s, zgd_t, Bool.and_true, Bool.true_and, Bool.and_self, if_true, if_false, e_01, eq_self, Bool.false_eq_true]
  cases hbit : eb (rg MR 1362 0 b) p with
  | false =>
    simp only [zbd_s, zbv_s, zgd_t, Bool.and_true, Bool.true_and, Bool.and_self, if_true, if_false, e_01, eq_self, Bool.false_eq_true]
    exact eO_same ⟨m, t, hm, ht, g0, g1, g2, g3, g4, g5, g6, g7, g8, g9⟩
  | true =>
    have hor : rg MR 1362 0 b ||| zshl 1 (nI p) = rg MR 1362 0 b := by
      refine eb_ext (fun j hj => ?_)
      rw [eb_or, eb_shl (by omega)]
      by_cases hjp : j = p
      · subst hjp; simp [hbit]
      · simp [hjp]
    simp only [hor, zbd_s, zbv_s, zgd_t, Bool.and_true, Bool.true_and, Bool.and_self, if_true, if_false, e_01, eq_self, Bool.false_eq_true]
    simp only [reduceCtorEq, if_false]
    refine eO_fin (p10 b p hb10 hp8).1 ⟨m, t, hm, ht, eG0_fr g0 (K := [10216, 317]) (K' := [1364]) (by repeat (first | exact eF_refl | refine eF_cs ?_ rfl)) (by repeat (first | exact eH_refl | refine eH_rs ?_ rfl | refine eH_rsl ?_)) rfl rfl, eG1_fr g1 (K := [10216, 317]) (K' := [1364]) (by repeat (first | exact eF_refl | refine eF_cs ?_ rfl)) (by repeat (first | exact eH_refl | refine eH_rs ?_ rfl | refine eH_rsl ?_)) rfl rfl, eG2_fr g2 (K := [10216, 317]) (K' := [1364]) (by repeat (first | exact eF_refl | refine eF_cs ?_ rfl)) (by repeat (first | exact eH_refl | refine eH_rs ?_ rfl | refine eH_rsl ?_)) rfl rfl, eG3_fr g3 (K := [10216, 317]) (K' := [1364]) (by repeat (first | exact eF_refl | refine eF_cs ?_ rfl)) (by repeat (first | exact eH_refl | refine eH_rs ?_ rfl | refine eH_rsl ?_)) (fun _ _ => rfl) rfl rfl, eG4_fr g4 (K := [10216, 317]) (K' := [1364]) (by repeat (first | exact eF_refl | refine eF_cs ?_ rfl)) (by repeat (first | exact eH_refl | refine eH_rs ?_ rfl | refine eH_rsl ?_)) rfl rfl, eG5_fr g5 (K := [10216, 317]) (K' := [1364]) (by repeat (first | exact eF_refl | refine eF_cs ?_ rfl)) (by repeat (first | exact eH_refl | refine eH_rs ?_ rfl | refine eH_rsl ?_)) rfl rfl, eG6_fr g6 (K := [10216, 317]) (K' := [1364]) (by repeat (first | exact eF_refl | refine eF_cs ?_ rfl)) (by repeat (first | exact eH_refl | refine eH_rs ?_ rfl | refine eH_rsl ?_)) rfl rfl, ?_, eG8_fr g8 (K := [10216, 317]) (K' := [1364]) (by repeat (first | exact eF_refl | refine eF_cs ?_ rfl)) (by repeat (first | exact eH_refl | refine eH_rs ?_ rfl | refine eH_rsl ?_)) ⟨rfl, rfl⟩ rfl rfl, eG9_fr g9 (K := [10216, 317]) (K' := [1364]) (by repeat (first | exact eF_refl | refine eF_cs ?_ rfl)) (by repeat (first | exact eH_refl | refine eH_rs ?_ rfl | refine eH_rsl ?_)) rfl rfl⟩
    refine ⟨⟨pn, ps, by omega, p2, p3, p4, p5, p6, p7, p8⟩, fun c hc => ?_, fun c k hc hk => ?_⟩
    · have := p9 c hc
      simp only [cg_cs, rg_rs]
      by_cases hcb : c = b
      · subst hcb; simp; exact ⟨this.2.1, this.2.2⟩
      · simp [hcb]; exact this
    · have := p10 c k hc hk
      simp only [cg_cs, rg_rs]
      by_cases hcb : c = b ∧ k = p
      · obtain ⟨rfl, rfl⟩ := hcb; simp; exact h3
      · rw [if_neg (by omega), if_neg (by omega), if_neg (by omega)]; exact this
