theorem area_ok {m : Nat} (hm : m ≤ 10) {x : Int32} (h : 0 ≤ x ∧ x ≤ zshl 1 (nI m) - 1) (j : Nat) (hj : m ≤ j) : eb x j = false := by
  have hp : 1 ≤ 2 ^ m := Nat.one_le_two_pow
  have hp2 : 2 ^ m ≤ 2 ^ 10 := Nat.pow_le_pow_right (by decide) hm
  have e : zshl 1 (nI m) - 1 = nI (2 ^ m - 1) := by
    rw [zshl_pow (by omega)]
    obtain ⟨k, hk⟩ : ∃ k, 2 ^ m = k + 1 := ⟨2 ^ m - 1, by omega⟩
    rw [hk, ← eI_add]; exact Int32.add_sub_cancel _ _
  rw [e] at h
  obtain ⟨a, ha, rfl⟩ := eI_ofl h.1 h.2 (by omega)
  rw [eb_nI _ _ (by omega)]
  exact Nat.testBit_lt_two_pow (Nat.lt_of_lt_of_le (show a < 2 ^ m by omega) (Nat.pow_le_pow_right (by decide) hj))
theorem eNum_0 {n : Nat} {p : Nat → Bool} : eNum n p = 0 ↔ ∀ j, j < n → p j = false := by
  induction n with
  | zero => simp [eNum]
  | succ n ih =>
    rw [eNum_s]
    constructor
    · intro h j hj
      have h1 : eNum n p = 0 := by omega
      by_cases hjn : j = n
      · subst hjn
        cases hp : p j with
        | false => rfl
        | true => rw [hp] at h; simp at h
      · exact ih.mp h1 j (by omega)
    · intro h
      rw [ih.mpr (fun j hj => h j (by omega)), h n (by omega)]; rfl
theorem o_begin {n : Nat} {MC : cM} {MR : rM} (hn : n < 600) (h : eRel n MC MR) (x1 : Int32) : eO n (m11_begin x1 MC) (m12_begin x1 MR) := by
  obtain ⟨m, t, hm, ht, g0, g1, g2, g3, g4, g5, g6, g7, g8, g9⟩ := h
  have g7' := g7
  obtain ⟨⟨pn, ps, p1, p2, p3, p4, p5, p6, p7, p8⟩, p9, p10⟩ := g7'
  unfold m11_begin m12_begin
  rw [g0.1, g0.2.1]
  rcases (Classical.em ((0 : Int32) ≤ x1 ∧ x1 ≤ zshl 1 (nI m) - 1)).symm with h2 | h2
  · simp only [out_y h2, in_n h2, zbd_s, zbv_s, zgd_t, Bool.and_true, Bool.true_and, Bool.and_self, if_true, if_false, e_01, eq_self, Bool.false_eq_true]
    exact eO_same ⟨m, t, hm, ht, g0, g1, g2, g3, g4, g5, g6, g7, g8, g9⟩
  simp only [out_n h2.1 h2.2, in_y h2.1 h2.2, p4, p5, eI_0 (show pn < 2 ^ 31 by omega), zbd_s, zbv_s, zgd_t, Bool.and_true, Bool.true_and, Bool.and_self, if_true, if_false, e_01, eq_self, Bool.false_eq_true]
  by_cases hpn : pn = 0
  · simp only [hpn, if_true]
    exact eO_same ⟨m, t, hm, ht, g0, g1, g2, g3, g4, g5, g6, g7, g8, g9⟩
  simp only [hpn, if_false, m6_beginIn, living_c hm g0 g1, zbd_s, zbv_s, zgd_t, Bool.and_true, Bool.true_and, Bool.and_self, if_true, if_false, e_01, eq_self, Bool.false_eq_true]
  obtain ⟨pS, hpS⟩ : ∃ pS : Nat → Bool, pS = fun b => eb x1 b && eLiv MR b := ⟨_, rfl⟩
  obtain ⟨bad, hbad⟩ : ∃ bad : Nat → Bool, bad = fun b => pS b && !(eSnd MR ps b) := ⟨_, rfl⟩
  have hset : x1 &&& eSet m (eLiv MR) = eSet m pS := by
    refine eb_ext (fun j hj => ?_)
    rw [eb_and, eb_set (by omega), eb_set (by omega), hpS]
    cases c : eb x1 j <;> simp [c]
  rw [hset]
  obtain ⟨a, a1, a2, a3⟩ := eBc_set hm pS
  have hbit : ∀ j, j < m → eb (eSet m pS) j = pS j := by
    intro j hj; rw [eb_set (by omega)]; simp [hj]
  have hsc : ∀ b, b < 10 → m6_isSound b MC = some (if eSnd MR ps b then 1 else 0, MC) := fun b hb => sound_c g7 hb p2 p3 (by omega) p4 p6 p8
  have hse : ∀ b, b < 10 → m12_isSound (nI b) MR = some (if eSnd MR ps b then 1 else 0, MR) := fun b hb => sound_e hb p2 p7
  -- the class's first loop
  have hC1 : m6_beginIn_12 zfu (eSet m pS) 0 MC = if eNum m bad = 0 then m6_beginIn_57 zfu (eSet m pS) 0 MC else some (0, MC) := by
    refine eloop0 (fun f k => eNum k bad = 0 → m6_beginIn_12 f (eSet m pS) (nI k) MC = if eNum m bad = 0 then m6_beginIn_57 zfu (eSet m pS) 0 MC else some (0, MC)) (Nat.zero_le m) ?_ ?_ (zfu_gt (by omega)) rfl
    · intro f hz
      simp only [m6_beginIn_12, g0.1, eI_le (show m < 2 ^ 31 by omega) (show m < 2 ^ 31 by omega), show (m ≤ m) = True from eq_true (by omega), hz, zbd_s, zbv_s, zgd_t, Bool.and_true, Bool.true_and, Bool.and_self, if_true, if_false, e_01, eq_self, Bool.false_eq_true]
    · intro f k _ hk ih hz
      have hk10 : k < 10 := by omega
      simp only [m6_beginIn_12, m6_beginIn_49, g0.1, eI_le (show m < 2 ^ 31 by omega) (show k < 2 ^ 31 by omega), show (m ≤ k) = False from eq_false (by omega), zshr1_1 (show k < 32 by omega), hbit k hk, of_y hk10, hsc k hk10, ei_1, ep1, zbd_s, zbv_s, zgd_t, Bool.and_true, Bool.true_and, Bool.and_self, if_true, if_false, e_01, eq_self, Bool.false_eq_true]
      cases c1 : pS k with
      | false =>
        have hb : bad k = false := by rw [hbad]; simp [c1]
        simp only [Bool.false_eq_true, if_false]
        exact ih (by rw [eNum_s, hz, hb]; rfl)
      | true =>
        cases c2 : eSnd MR ps k with
        | true =>
          have hb : bad k = false := by rw [hbad]; simp [c2]
          simp only [if_true, reduceCtorEq, if_false]
          exact ih (by rw [eNum_s, hz, hb]; rfl)
        | false =>
          have hb : bad k = true := by rw [hbad]; simp [c1, c2]
          have : ¬ eNum m bad = 0 := fun h0 => by
            have := eNum_0.mp h0 k hk; rw [hb] at this; cases this
          simp [this]
  have hC2 : ∃ MC', m6_beginIn_57 zfu (eSet m pS) 0 MC = some (nI (eNum m pS), MC') ∧ eF [10218] MC MC' ∧ MC'.2 = MC.2 ∧ ∀ b, cg MC' 2 b 18 = if b < m ∧ pS b = true then nI pn else cg MC 2 b 18 := by
    refine eloop (σ := cM) (fun f k M => ∃ MC', m6_beginIn_57 f (eSet m pS) (nI k) M = some (nI (eNum m pS), MC') ∧ eF [10218] MC MC' ∧ MC'.2 = MC.2 ∧ ∀ b, cg MC' 2 b 18 = if b < m ∧ pS b = true then nI pn else cg MC 2 b 18) (fun k M => eF [10218] MC M ∧ M.2 = MC.2 ∧ ∀ b, cg M 2 b 18 = if b < k ∧ pS b = true then nI pn else cg MC 2 b 18) (m := m) (k0 := 0) (by omega) ?_ ?_ (zfu_gt (by omega)) ⟨eF_refl, rfl, fun b => by simp⟩
    · rintro f M ⟨i1, i2, i3⟩
      have hm3 : cg M 3 0 4 = nI m := by rw [i1 3 0 4 rfl, g0.1]
      rw [a2]
      simp only [m6_beginIn_57, hm3, eI_le (show m < 2 ^ 31 by omega) (show m < 2 ^ 31 by omega), show (m ≤ m) = True from eq_true (by omega), bitC a1, a3, zbd_s, zbv_s, zgd_t, Bool.and_true, Bool.true_and, Bool.and_self, if_true, if_false, e_01, eq_self, Bool.false_eq_true]
      exact ⟨M, rfl, i1, i2, i3⟩
    · rintro f k M _ hk ⟨i1, i2, i3⟩ ih
      have hm3 : cg M 3 0 4 = nI m := by rw [i1 3 0 4 rfl, g0.1]
      have hm6 : cg M 6 0 1 = nI pn := by rw [i1 6 0 1 rfl, p4]
      have hk10 : k < 10 := by omega
      simp only [m6_beginIn_57, m6_beginIn_92, hm3, hm6, eI_le (show m < 2 ^ 31 by omega) (show k < 2 ^ 31 by omega), show (m ≤ k) = False from eq_false (by omega), zshr1_1 (show k < 32 by omega), hbit k hk, of_y hk10, blt_t hk10, ep1, zbd_s, zbv_s, zgd_t, Bool.and_true, Bool.true_and, Bool.and_self, if_true, if_false, e_01, eq_self, Bool.false_eq_true]
      cases c1 : pS k with
      | false =>
        simp only [Bool.false_eq_true, if_false]
        refine ih M ⟨i1, i2, fun b => ?_⟩
        have := i3 b
        grind
      | true =>
        simp only [if_true]
        refine ih _ ⟨eF_cs i1 rfl, i2, fun b => ?_⟩
        have := i3 b
        simp only [cg_cs]
        grind
  have hR1 : m12_begin_36 zfu x1 0 1 0 MR = m12_begin_96 zfu x1 (nI (eNum m pS)) (if decide (eNum m bad = 0) then 1 else 0) 0 MR := by
    refine eloop0 (fun f k => m12_begin_36 f x1 (nI (eNum k pS)) (if decide (eNum k bad = 0) then 1 else 0) (nI k) MR = m12_begin_96 zfu x1 (nI (eNum m pS)) (if decide (eNum m bad = 0) then 1 else 0) 0 MR) (Nat.zero_le m) ?_ ?_ (zfu_gt (by omega))
    · intro f
      simp only [m12_begin_36, g0.2.1, eI_le (show m < 2 ^ 31 by omega) (show m < 2 ^ 31 by omega), show (m ≤ m) = True from eq_true (by omega), zbd_s, zbv_s, zgd_t, Bool.and_true, Bool.true_and, Bool.and_self, if_true, if_false, e_01, eq_self, Bool.false_eq_true]
    · intro f k _ hk ih
      have hk10 : k < 10 := by omega
      rw [← ih, eNum_s, eNum_s]
      simp only [m12_begin_36, m12_begin_87, m12_begin_83, g0.2.1, eI_le (show m < 2 ^ 31 by omega) (show k < 2 ^ 31 by omega), show (m ≤ k) = False from eq_false (by omega), zshr1_1 (show k < 32 by omega), ezin_nI (show k < 10 by omega) (show 10 < 2 ^ 31 by decide), ex_nI (show k < 2 ^ 31 by omega), hse k hk10, ei_1, ep1, zbd_s, zbv_s, zgd_t, Bool.and_true, Bool.true_and, Bool.and_self, if_true, if_false, e_01, eq_self, Bool.false_eq_true]
      have hpk : pS k = (eb x1 k && eLiv MR k) := by rw [hpS]
      have hbk : bad k = (pS k && !(eSnd MR ps k)) := by rw [hbad]
      by_cases c1 : eb x1 k = true
      · by_cases c2 : rg MR 1302 0 k ≤ 0
        · have q1 : pS k = false := by rw [hpk]; simp [eLiv, c2]
          have q2 : bad k = false := by rw [hbk, q1]; rfl
          simp [c1, c2, q1, q2]
        · have q1 : pS k = true := by rw [hpk]; simp [eLiv, c2, c1]
          by_cases c3 : eSnd MR ps k = true
          · have q2 : bad k = false := by rw [hbk, q1, c3]; rfl
            by_cases c4 : eNum k bad = 0 <;> simp [c1, c2, c3, c4, q1, q2, ep1]
          · have q2 : bad k = true := by rw [hbk, q1]; simp [c3]
            by_cases c4 : eNum k bad = 0 <;> simp [c1, c2, c3, c4, q1, q2, ep1]
      · have q1 : pS k = false := by rw [hpk]; simp [c1]
        have q2 : bad k = false := by rw [hbk, q1]; rfl
        simp [c1, q1, q2]
  have hR2 : eNum m bad = 0 → ∃ MR', m12_begin_96 zfu x1 (nI (eNum m pS)) 1 0 MR = some (nI (eNum m pS), MR') ∧ eH [1366] MR MR' ∧ ∀ b, rg MR' 1366 0 b = if b < m ∧ pS b = true then nI pn else rg MR 1366 0 b := by
    intro hz
    refine eloop (σ := rM) (fun f k M => ∃ MR', m12_begin_96 f x1 (nI (eNum m pS)) 1 (nI k) M = some (nI (eNum m pS), MR') ∧ eH [1366] MR MR' ∧ ∀ b, rg MR' 1366 0 b = if b < m ∧ pS b = true then nI pn else rg MR 1366 0 b) (fun k M => eH [1366] MR M ∧ ∀ b, rg M 1366 0 b = if b < k ∧ pS b = true then nI pn else rg MR 1366 0 b) (m := m) (k0 := 0) (by omega) ?_ ?_ (zfu_gt (by omega)) ⟨eH_refl, fun b => by simp⟩
    · rintro f M ⟨i1, i3⟩
      have hm3 : rg M 12 0 0 = nI m := by rw [i1 12 0 0 rfl, g0.2.1]
      simp only [m12_begin_96, m12_begin_156, hm3, eI_le (show m < 2 ^ 31 by omega) (show m < 2 ^ 31 by omega), show (m ≤ m) = True from eq_true (by omega), zbd_s, zbv_s, zgd_t, Bool.and_true, Bool.true_and, Bool.and_self, if_true, if_false, e_01, eq_self, Bool.false_eq_true]
      exact ⟨M, rfl, i1, i3⟩
    · rintro f k M _ hk ⟨i1, i3⟩ ih
      have hm3 : rg M 12 0 0 = nI m := by rw [i1 12 0 0 rfl, g0.2.1]
      have hm6 : rg M 12 0 59 = nI pn := by rw [i1 12 0 59 rfl, p5]
      have hk10 : k < 10 := by omega
      have hp : pS k = (eb x1 k && !decide (rg MR 1302 0 k ≤ 0)) := by rw [hpS]; rfl
      have hlv : rg M 1302 0 k = rg MR 1302 0 k := i1 1302 0 k rfl
      simp only [m12_begin_96, m12_begin_142, m12_begin_149, m12_begin_156, hm3, hm6, hlv, eI_le (show m < 2 ^ 31 by omega) (show k < 2 ^ 31 by omega), show (m ≤ k) = False from eq_false (by omega), zshr1_1 (show k < 32 by omega), ezin_nI (show k < 10 by omega) (show 10 < 2 ^ 31 by decide), ex_nI (show k < 2 ^ 31 by omega), ep1, zbd_s, zbv_s, zgd_t, Bool.and_true, Bool.true_and, Bool.and_self, if_true, if_false, e_01, eq_self, Bool.false_eq_true]
      cases c1 : eb x1 k with
      | false =>
        simp only [Bool.false_eq_true, if_false]
        refine ih _ ⟨eH_rs i1 rfl, fun b => ?_⟩
        have := i3 b
        have hp' : pS k = false := by rw [hp, c1]; rfl
        simp only [rg_rs]
        grind
      | true =>
        simp only [if_true]
        by_cases c2 : rg MR 1302 0 k ≤ 0
        · simp only [c2, if_true]
          refine ih _ ⟨eH_rs i1 rfl, fun b => ?_⟩
          have := i3 b
          have hp' : pS k = false := by rw [hp, c1]; simp [c2]
          simp only [rg_rs]
          grind
        · simp only [c2, if_false]
          refine ih _ ⟨eH_rs i1 rfl, fun b => ?_⟩
          have := i3 b
          have hp' : pS k = true := by rw [hp, c1]; simp [c2]
          simp only [rg_rs]
          grind
  rw [hC1, hR1]
  by_cases hz : eNum m bad = 0
  · obtain ⟨MC', c1, c2, c3, c4⟩ := hC2
    obtain ⟨MR', r1, r2, r3⟩ := hR2 hz
    rw [if_pos hz, c1, decide_eq_true hz, if_pos rfl, r1, zbd_s]
    have hP' : ∀ k i s, cp MC' k i s = cp MC k i s := by intro k i s; unfold cp; rw [c3]
    refine eO_fin rfl ⟨m, t, hm, ht, eG0_fr g0 c2 r2 rfl rfl, eG1_fr g1 c2 r2 rfl rfl, eG2_fr g2 c2 r2 rfl rfl, eG3_fr g3 c2 r2 (fun b k => hP' 901 b k) rfl rfl, eG4_fr g4 c2 r2 rfl rfl, eG5_fr g5 c2 r2 rfl rfl, eG6_fr g6 c2 r2 rfl rfl, ?_, eG8_fr g8 c2 r2 ⟨hP' 4 0 8, hP' 4 0 9⟩ rfl rfl, eG9_fr g9 c2 r2 rfl rfl⟩
    refine ⟨⟨pn, ps, by omega, p2, p3, ?_⟩, fun b hb => ⟨?_, ?_, fun hmb => ?_⟩, fun b p hb hp => ?_⟩
    · rw [c2 6 0 1 rfl, c2 6 0 2 rfl, c2 6 0 3 rfl, r2 12 0 59 rfl, r2 12 0 60 rfl, r2 12 0 61 rfl]; exact ⟨p4, p5, p6, p7, p8⟩
    · rw [c2 2 b 16 rfl, r2 1362 0 b rfl]; exact (p9 b hb).1
    · rw [c4 b, r3 b, (p9 b hb).2.1]
    · rw [r2 1362 0 b rfl]; exact (p9 b hb).2.2 hmb
    · rw [c2 317 b p rfl, r2 1364 0 _ rfl]; exact p10 b p hb hp
  · have e96 : m12_begin_96 zfu x1 (nI (eNum m pS)) 0 0 MR = some (0, MR) := by
      have h96 : ∀ f, m12_begin_96 (f + 1) x1 (nI (eNum m pS)) 0 0 MR = some (0, MR) := by
        intro f
        simp only [m12_begin_96, m12_begin_156, if_true]
        simp
      exact h96 99999
    rw [if_neg hz, decide_eq_false hz, if_neg (by decide), e96, zbd_s]
    exact eO_same ⟨m, t, hm, ht, g0, g1, g2, g3, g4, g5, g6, g7, g8, g9⟩
