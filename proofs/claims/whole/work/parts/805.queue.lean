/-! sums whose time has come are put on rows -/
theorem cnt_ok {m b : Nat} {MC : cM} {MR : rM} (g2 : eG2 m MC MR) (hb : b < m) : eCnt MR b = -1 ∨ 0 ≤ eCnt MR b := by
  unfold eCnt
  by_cases h0 : b = 0
  · rw [if_pos h0]
    split
    · exact .inl rfl
    · exact .inr (by decide)
  · rw [if_neg h0]
    rcases (g2.1 b hb).2.2 with ⟨-, h⟩ | ⟨-, h, -⟩
    · exact .inl h
    · exact .inr (by lia)
/-- how deep all is, on both sides -/
def eDp (D D' : Int32) : Prop := (D = -1 ∧ D' = 0) ∨ (D = D' ∧ 0 ≤ D)
theorem deep_cr {m t : Nat} {MC : cM} {MR : rM} (hm : m ≤ 10) (g0 : eG0 m t MC MR) (g1 : eG1 m MC MR) (g2 : eG2 m MC MR) : ∃ D D', m3_deepest MC = some (D, MC) ∧ m12_queueSums (nI t) MR = m12_queueSums_39 zfu (nI t) D' 1 MR ∧ eDp D D' ∧ ∀ b, b < m → eCnt MR b ≤ D := by
  unfold m3_deepest m12_queueSums
  refine eloop (σ := Int32 × Int32) (fun f k s => ∃ D D', m3_deepest_4 f s.1 (nI k) MC = some (D, MC) ∧ m12_queueSums_4 f (nI t) s.2 (nI k) MR = m12_queueSums_39 zfu (nI t) D' 1 MR ∧ eDp D D' ∧ ∀ b, b < m → eCnt MR b ≤ D) (fun k s => eDp s.1 s.2 ∧ ∀ b, b < k → eCnt MR b ≤ s.1) (s := (-1, 0)) (m := m) (k0 := 0) (by omega) ?_ ?_ (zfu_gt (by omega)) ⟨.inl ⟨rfl, rfl⟩, fun b hb => absurd hb (by omega)⟩
  · rintro f ⟨D, D'⟩ ⟨i1, i2⟩
    refine ⟨D, D', ?_, ?_, i1, i2⟩
    · rw [m3_deepest_4, g0.1, if_pos (by rw [eI_le (by omega) (by omega)]; omega)]
    · rw [m12_queueSums_4, g0.2.1, if_pos (by rw [eI_le (by omega) (by omega)]; omega)]
  · rintro f k ⟨D, D'⟩ hk0 hk ⟨i1, i2⟩ ih
    dsimp only at i1 i2
    have hk10 : k < 10 := by omega
    have hc := cnt_ok g2 hk
    rw [m3_deepest_4, m12_queueSums_4]
    simp only [g0.1, g0.2.1, eI_le (show m < 2 ^ 31 by omega) (show k < 2 ^ 31 by omega), show (m ≤ k) = False from eq_false (by omega), of_y hk10, blt_t hk10, cnt_c g1 g2 hm hk, cntOf_e hk10, max_c, ep1, zbd_s, zbv_s, zgd_t, Bool.and_true, Bool.true_and, Bool.and_self, if_true, if_false, e_01, eq_self, Bool.false_eq_true]
    have fin : ∀ E E', eDp E E' → D ≤ E → eCnt MR k ≤ E → ∃ D D', m3_deepest_4 f E (nI (k + 1)) MC = some (D, MC) ∧ m12_queueSums_4 f (nI t) E' (nI (k + 1)) MR = m12_queueSums_39 zfu (nI t) D' 1 MR ∧ eDp D D' ∧ ∀ b, b < m → eCnt MR b ≤ D := by
      intro E E' h1 h2 h3
      refine ih (E, E') ⟨h1, fun b hb => ?_⟩
      by_cases hbk : b = k
      · rw [hbk]; exact h3
      · have := i2 b (by omega)
        exact Int32.le_trans this h2
    unfold m12_queueSums_30
    rw [ep1]
    by_cases h1 : eCnt MR k ≤ D'
    · rw [if_pos h1]
      by_cases h2 : eCnt MR k ≤ D
      · rw [if_pos h2]; exact fin D D' i1 (Int32.le_refl D) h2
      · rw [if_neg h2]
        refine fin _ D' ?_ (by lia) (Int32.le_refl _)
        rcases i1 with ⟨a1, a2⟩ | ⟨a1, a2⟩
        · right
          have : eCnt MR k = 0 := by
            rcases hc with hc | hc
            · rw [hc, a1] at h2; exact absurd (Int32.le_refl (-1)) h2
            · rw [a2] at h1; exact Int32.le_antisymm h1 hc
          rw [this, a2]; exact ⟨rfl, Int32.le_refl 0⟩
        · rw [a1] at h2; exact absurd h1 h2
    · rw [if_neg h1]
      have h2 : ¬ eCnt MR k ≤ D := by
        intro h
        rcases i1 with ⟨a1, a2⟩ | ⟨a1, a2⟩
        · rw [a1] at h; rw [a2] at h1; lia
        · rw [a1] at h; exact h1 h
      rw [if_neg h2]
      refine fin _ _ (.inr ⟨rfl, ?_⟩) (by lia) (Int32.le_refl _)
      rcases i1 with ⟨a1, a2⟩ | ⟨a1, a2⟩
      · rw [a2] at h1; lia
      · rw [← a1] at h1; lia
theorem isIn_c {b : Nat} (h : b < 32) (x : Int32) (M : cM) : m0_isIn x (nI b) M = some (if eb x b then 1 else 0, M) := by
  unfold m0_isIn
  rw [zshr1 h]
  cases eb x b <;> rfl
/-- a row's place, written number by number: from a sum -/
theorem put161_e {b q : Nat} {MR : rM} (k39 : Int32 → Int32 → Int32 → rM → Option rM) (x1 x2 : Int32) (hb : b < 10) (hq : q < 4) (h1 : rg MR 1314 0 b = nI q) : ∃ MR', m12_queueSums_161 k39 zfu x1 x2 (nI b) (nI (24 * b + 6 * q)) 0 (rs MR 1315 0 (24 * b + 6 * q) 1) = k39 x1 x2 (nI (b + 1)) MR' ∧ eH [1314, 1315, 1317] MR MR' ∧ rg MR' 1314 0 b = nI (q + 1) ∧ (∀ c, c ≠ b → rg MR' 1314 0 c = rg MR 1314 0 c) ∧ rg MR' 1317 0 b = 1 ∧ (∀ c, c ≠ b → rg MR' 1317 0 c = rg MR 1317 0 c) ∧ rg MR' 1315 0 (24 * b + 6 * q) = 1 ∧ (∀ s, s < 5 → rg MR' 1315 0 (24 * b + 6 * q + 1 + s) = rg MR 1316 0 (5 * b + s)) ∧ ∀ j, (j < 24 * b + 6 * q ∨ 24 * b + 6 * q + 6 ≤ j) → rg MR' 1315 0 j = rg MR 1315 0 j := by
  refine eloop (σ := rM) (fun f k M => ∃ MR', m12_queueSums_161 k39 f x1 x2 (nI b) (nI (24 * b + 6 * q)) (nI k) M = k39 x1 x2 (nI (b + 1)) MR' ∧ eH [1314, 1315, 1317] MR MR' ∧ rg MR' 1314 0 b = nI (q + 1) ∧ (∀ c, c ≠ b → rg MR' 1314 0 c = rg MR 1314 0 c) ∧ rg MR' 1317 0 b = 1 ∧ (∀ c, c ≠ b → rg MR' 1317 0 c = rg MR 1317 0 c) ∧ rg MR' 1315 0 (24 * b + 6 * q) = 1 ∧ (∀ s, s < 5 → rg MR' 1315 0 (24 * b + 6 * q + 1 + s) = rg MR 1316 0 (5 * b + s)) ∧ ∀ j, (j < 24 * b + 6 * q ∨ 24 * b + 6 * q + 6 ≤ j) → rg MR' 1315 0 j = rg MR 1315 0 j) (fun k M => eH [1315] MR M ∧ rg M 1315 0 (24 * b + 6 * q) = 1 ∧ (∀ s, s < k → rg M 1315 0 (24 * b + 6 * q + 1 + s) = rg MR 1316 0 (5 * b + s)) ∧ ∀ j, (j < 24 * b + 6 * q ∨ 24 * b + 6 * q + 6 ≤ j) → rg M 1315 0 j = rg MR 1315 0 j) (m := 5) (k0 := 0) (by omega) ?_ ?_ (zfu_gt (by omega)) ⟨(by repeat (first | exact eH_refl | refine eH_rs ?_ rfl | refine eH_rsl ?_)), by rw [rg_rs, if_pos ⟨rfl, rfl, rfl⟩], fun s hs => absurd hs (by omega), fun j hj => by rw [rg_rs, if_neg (by omega)]⟩
  · rintro f M ⟨i1, i2, i3, i4⟩
    have e1 : rg M 1314 0 b = nI q := by rw [i1 1314 0 b rfl, h1]
    rw [m12_queueSums_161, if_pos (show (5 : Int32) ≤ nI 5 from by decide)]
    simp only [ezin_nI (show b < 10 by omega) (show 10 < 2 ^ 31 by decide), ex_nI (show b < 2 ^ 31 by omega), e1, ep1, m12_queueSums_213, nar1, zbd_s, zbv_s, zgd_t, Bool.and_true, Bool.true_and, Bool.and_self, if_true, if_false, e_01, eq_self, Bool.false_eq_true]
    refine ⟨_, rfl, eH_rs (eH_rs (eH_mono i1 rfl) rfl) rfl, ?_, fun c hc => ?_, ?_, fun c hc => ?_, ?_, fun s hs => ?_, fun j hj => ?_⟩
    · rw [rg_rs, if_neg (by omega), rg_rs, if_pos ⟨rfl, rfl, rfl⟩]
    · rw [rg_rs, if_neg (by omega), rg_rs, if_neg (fun h => hc h.2.2)]; exact i1 1314 0 c rfl
    · rw [rg_rs, if_pos ⟨rfl, rfl, rfl⟩]
    · rw [rg_rs, if_neg (fun h => hc h.2.2), rg_rs, if_neg (by omega)]; exact i1 1317 0 c rfl
    · rw [rg_rs, if_neg (by omega), rg_rs, if_neg (by omega)]; exact i2
    · rw [rg_rs, if_neg (by omega), rg_rs, if_neg (by omega)]; exact i3 s hs
    · rw [rg_rs, if_neg (by omega), rg_rs, if_neg (by omega)]; exact i4 j hj
  · rintro f k M hk0 hk ⟨i1, i2, i3, i4⟩ ih
    have c5 : ((5 : Int32) ≤ nI k) = False := eq_false (by rw [show (5 : Int32) = nI 5 from rfl, eI_le (by omega) (by omega)]; omega)
    rw [m12_queueSums_161]
    simp only [c5, e5, eI_add, ep1, ezin_nI (show 5 * b + k < 55 by omega) (show 55 < 2 ^ 31 by decide), ex_nI (show 5 * b + k < 2 ^ 31 by omega), ezin_nI (show 24 * b + 6 * q + 1 + k < 240 by omega) (show 240 < 2 ^ 31 by decide), ex_nI (show 24 * b + 6 * q + 1 + k < 2 ^ 31 by omega), zbd_s, zbv_s, zgd_t, Bool.and_true, Bool.true_and, Bool.and_self, if_true, if_false, e_01, eq_self, Bool.false_eq_true]
    refine ih _ ⟨eH_rs i1 rfl, ?_, fun s hs => ?_, fun j hj => ?_⟩
    · rw [rg_rs, if_neg (by omega)]; exact i2
    · by_cases hsk : s = k
      · subst hsk
        rw [rg_rs, if_pos ⟨rfl, rfl, rfl⟩]; exact i1 1316 0 _ rfl
      · rw [rg_rs, if_neg (by omega)]; exact i3 s (by omega)
    · rw [rg_rs, if_neg (by omega)]; exact i4 j hj
def eKQ : List Nat := [900, 10802, 10900, 10901, 10902, 10903, 10904, 10214]
/-- a box's own sum counts as said now -/
theorem said_x {m b : Nat} {MC : cM} {MR MR' : rM} (h : eG3y (fun _ => false) m MC MR) (hb : b < m) (hm : m ≤ 10) (h0 : cg MC 2 b 14 = 0) (hR : eH [1317] MR MR') (h1 : rg MR' 1317 0 b = 1) (h2 : ∀ c, c ≠ b → rg MR' 1317 0 c = rg MR 1317 0 c) : eG3y (fun _ => false) m (cs MC 2 b 14 1) MR' ∧ eMs (cs MC 2 b 14 1) + nx (cg MC 9 b 2) = eMs MC := by
  obtain ⟨r1, r2, r3, r4, r5, r6, r7, r8⟩ := h
  have f : eF [10214] MC (cs MC 2 b 14 1) := (by repeat (first | exact eF_refl | refine eF_cs ?_ rfl))
  refine ⟨⟨fun c hc => ⟨fun hs => ?_, fun hs => by cases hs⟩, r2, fun c s hc hs => by rw [hR 1316 0 _ rfl]; exact r3 c s hc hs, fun s hs => by rw [hR 1316 0 _ rfl]; exact r4 s hs, r5, fun c hc => ?_, fun c hc hmc => ?_, r8⟩, ?_⟩
  · obtain ⟨q', q1, q2, q3, q4⟩ := (r1 c hc).1 hs
    refine ⟨q', q1, q2, by rw [hR 1314 0 c rfl]; exact q3, fun k hk => ?_⟩
    exact eEnA_eq (K := 1315) (a := 24 * c + 6 * k) (q4 k hk) rfl (fun _ _ _ => rfl) (fun s _ => hR 1315 0 _ rfl)
  · by_cases hcb : c = b
    · subst hcb
      rw [cg_cs, if_pos ⟨rfl, rfl, rfl⟩, h1]; exact ⟨rfl, .inr rfl⟩
    · rw [cg_cs, if_neg (fun h => hcb h.2.1), h2 c hcb]; exact r6 c hc
  · obtain ⟨x1, x2, x3⟩ := r7 c hc hmc
    refine ⟨x1, ?_, x3⟩
    rw [cg_cs, if_neg (by omega)]; exact x2
  · have e1 : eSig 10 (eM1 (cs MC 2 b 14 1)) + eM1 MC b = eSig 10 (eM1 MC) + eM1 (cs MC 2 b 14 1) b := by
      refine eSig_upd (by omega) (fun k hk hkb => ?_)
      unfold eM1
      rw [show cg (cs MC 2 b 14 1) 2 k 14 = cg MC 2 k 14 from by rw [cg_cs, if_neg (fun h => hkb h.2.1)]]; rfl
    have e2 : eM1 MC b = nx (cg MC 9 b 2) := by unfold eM1; rw [if_pos h0]
    have e3 : eM1 (cs MC 2 b 14 1) b = 0 := by
      unfold eM1; rw [show cg (cs MC 2 b 14 1) 2 b 14 = 1 from by rw [cg_cs, if_pos ⟨rfl, rfl, rfl⟩], if_neg (by decide)]
    have e4 : eSig 10 (eM3 (cs MC 2 b 14 1)) = eSig 10 (eM3 MC) := rfl
    unfold eMs
    rw [e4, show cg (cs MC 2 b 14 1) 9 50 2 = cg MC 9 50 2 from rfl]
    omega
theorem rs_back {MR : rM} {MR' : rM} {b : Nat} (h : eH [1314, 1315, 1317] MR MR') : eH [1314, 1315, 1317] MR (rs MR' 1317 0 b 0) := eH_rs h rfl
/-- one box's sum is put on its row, on both sides -/
theorem put_x {m b q : Nat} {MC : cM} {MR : rM} (k39 : Int32 → Int32 → Int32 → rM → Option rM) (x1 x2 : Int32) (h : eG3 m MC MR) (hb : b < m) (hm : m ≤ 10) (hq : q < 4) (h2 : cg MC 8 b 2 = nI q) (h0 : cg MC 2 b 14 = 0) (hz : ¬ cg MC 9 b 2 = 0) : ∃ MC' MR', m8_addSum b b MC = some MC' ∧ m12_queueSums_161 k39 zfu x1 x2 (nI b) (nI (24 * b + 6 * q)) 0 (rs MR 1315 0 (24 * b + 6 * q) 1) = k39 x1 x2 (nI (b + 1)) MR' ∧ eF eKQ MC (cs MC' 2 b 14 1) ∧ MC'.2 = MC.2 ∧ eH [1314, 1315, 1317] MR MR' ∧ eG3 m (cs MC' 2 b 14 1) MR' := by
  have hb10 : b < 10 := by omega
  obtain ⟨h, hms⟩ := eG3_y.mp h
  have h' := h
  obtain ⟨r1, r2, r3, r4, r5, r6, r7, r8⟩ := h'
  have hj := ePt_lt r2 hb10 hq
  have hR0 : rg MR 1314 0 b = nI q := by
    obtain ⟨q', q1, q2, q3, -⟩ := (r1 b hb10).1 rfl
    rw [q3, ← q2, h2]
  obtain ⟨MC', c1, c2, c3, c4⟩ := addSum_c (b := b) (i := b) (q := q) (M := MC) hb10 (by omega) hq h2 (by omega) (by omega)
  obtain ⟨MR', d1, d2, d3, d4, d5, d6, d7, d8, d9⟩ := put161_e (b := b) (q := q) (MR := MR) k39 x1 x2 hb10 hq hR0
  obtain ⟨MRm, hMRm⟩ : ∃ X, X = rs MR' 1317 0 b 0 := ⟨_, rfl⟩
  have em : ∀ K s, K ≠ 1317 → rg MRm K 0 s = rg MR' K 0 s := fun K s hK => by rw [hMRm, rg_rs, if_neg (fun h => hK h.1)]
  have s0 : rg MR 1317 0 b = 0 := by rw [← (r6 b hb10).1, h0]
  have hp : ∀ kk i s, cp MC' kk i s = cp MC kk i s := fun kk i s => by unfold cp; rw [c2.2.1]
  have e9b : ∀ s, cg MC' 9 b s = cg MC 9 b s := fun s => c2.2.2.2.2.2 b s (by omega)
  obtain ⟨Y, Ym⟩ := push_x (MC' := MC') (MR' := MRm) h hb hm rfl hq h2 c2 (by
    refine .inr ⟨by rw [em _ _ (by decide), d7], c3, by rw [hp, c4 2 (by omega)]; exact hz, fun s hs => ?_⟩
    rw [hp, c4 s hs, em _ _ (by decide), d8 s hs]
    exact r3 b s hb10 hs) (eSm_cp (r8 b (by omega)) c4) (by rw [hMRm]; exact rs_back d2) (fun c => by
    by_cases hcb : c = b
    · rw [hcb, hMRm, rg_rs, if_pos ⟨rfl, rfl, rfl⟩, s0]
    · rw [hMRm, rg_rs, if_neg (fun h => hcb h.2.2), d6 c hcb]) ⟨by rw [em _ _ (by decide), d3], fun c hc => by rw [em _ _ (by decide), d4 c hc]⟩ (fun j hj => by rw [em _ _ (by decide), d9 j hj])
  have z0 : cg MC' 2 b 14 = 0 := by rw [c2.1 2 b 14 rfl, h0]
  obtain ⟨Z, Zm⟩ := said_x (MR' := MR') Y hb hm z0 (by
    intro k i s hk
    rw [hMRm, rg_rs, if_neg ?_]
    rintro ⟨rfl, rfl, rfl⟩
    cases hk) d5 (fun c hc => by rw [hMRm, rg_rs, if_neg (fun h => hc h.2.2)])
  have e2 : eM2 MC' b q = nx (cg MC' 9 b 2) := by
    unfold eM2
    rw [if_pos c3, hp, c4 2 (by omega), e9b]
  refine ⟨MC', MR', c1, d1, eF_cs (eF_mono c2.1 rfl) rfl, c2.2.1, d2, eG3_y.mpr ⟨Z, ?_⟩⟩
  omega
theorem queue_cr {m t : Nat} {MC : cM} {MR : rM} (hm : m ≤ 10) (ht : t ≤ 9000) (g0 : eG0 m t MC MR) (g1 : eG1 m MC MR) (g2 : eG2 m MC MR) (g3 : eG3 m MC MR) (g9 : cg MC 0 0 6 = rg MR 12 0 18) (hup : eUp m MC MR) : ∃ MC' MR', m0_queueSums MC = some MC' ∧ m12_queueSums (nI t) MR = some MR' ∧ eF eKQ MC MC' ∧ MC'.2 = MC.2 ∧ eH [1314, 1315, 1317] MR MR' ∧ eG3 m MC' MR' := by
  obtain ⟨D, D', d1, d2, d3, d4⟩ := deep_cr (t := t) hm g0 g1 g2
  have s4 := g0.2.2.2.2 4 (by omega)
  unfold m0_queueSums
  rw [d1, zbd_s, show (4 : Int32) = nI 4 from rfl, set_c (show 4 < 7 by omega), zbd_s, d2]
  by_cases hm0 : m = 0
  · subst hm0
    refine ⟨MC, MR, ?_, ?_, eF_refl, rfl, eH_refl, g3⟩
    · rw [zfu_eq, m0_queueSums_19, g0.1, if_pos (by decide)]
    · rw [zfu_eq, m12_queueSums_39, g0.2.1, if_pos (by decide)]
  rw [zfu_eq, m0_queueSums_19, g0.1, if_neg (by rw [show (0 : Int32) = nI 0 from rfl, eI_le (by omega) (by omega)]; omega), show (0 : Int32) = nI 0 from rfl, of_y (show 0 < 10 by omega), zbd_s, blt_t (show 0 < 10 by omega), Bool.and_true, zgd_t, (g2.1 0 (by omega)).1]
  have par0 : rg MR 1309 0 0 = -1 := by
    rcases (g2.1 0 (by omega)).2.2 with ⟨h, -⟩ | ⟨h, -⟩
    · exact h
    · omega
  rw [if_pos par0]
  unfold m0_queueSums_131
  rw [ep1, show nI (0 + 1) = nI 1 from rfl, show (1 : Int32) = nI 1 from rfl]
  refine eloop (σ := cM × rM) (fun f k s => ∃ MC' MR', m0_queueSums_19 f D (cg MC 401 0 4) (nI k) s.1 = some MC' ∧ m12_queueSums_39 (f + 1) (nI t) D' (nI k) s.2 = some MR' ∧ eF eKQ MC MC' ∧ MC'.2 = MC.2 ∧ eH [1314, 1315, 1317] MR MR' ∧ eG3 m MC' MR') (fun k s => eF eKQ MC s.1 ∧ s.1.2 = MC.2 ∧ eH [1314, 1315, 1317] MR s.2 ∧ eG3 m s.1 s.2) (s := (MC, MR)) (m := m) (k0 := 1) (by omega) ?_ ?_ (by omega) ⟨eF_refl, rfl, eH_refl, g3⟩
  · rintro f ⟨M, N⟩ ⟨i1, i2, i3, i4⟩
    refine ⟨M, N, ?_, ?_, i1, i2, i3, i4⟩
    · dsimp only
      rw [m0_queueSums_19, i1 3 0 4 rfl, g0.1, if_pos (by rw [eI_le (by omega) (by omega)]; omega)]
    · dsimp only
      rw [m12_queueSums_39, i3 12 0 0 rfl, g0.2.1, if_pos (by rw [eI_le (by omega) (by omega)]; omega)]
  · rintro f k ⟨M, N⟩ hk1 hk ⟨i1, i2, i3, i4⟩ ih
    dsimp only at i1 i2 i3 i4 ⊢
    have hk10 : k < 10 := by omega
    have G1 := eG1_fr g1 i1 i3 rfl rfl
    have G2 := eG2_fr g2 i1 i3 rfl rfl
    have e34 : cg M 3 0 4 = nI m := by rw [i1 3 0 4 rfl, g0.1]
    have e35 : cg M 3 0 5 = nI t := by rw [i1 3 0 5 rfl, g0.2.2.1]
    have e12 : rg N 12 0 0 = nI m := by rw [i3 12 0 0 rfl, g0.2.1]
    have e06 : cg M 0 0 6 = rg MR 12 0 18 := by rw [i1 0 0 6 rfl, g9]
    have e18 : rg N 12 0 18 = rg MR 12 0 18 := i3 12 0 18 rfl
    have eu : rg N 1322 0 k = if eb (cg M 0 0 8) k then 1 else 0 := by rw [i3 1322 0 k rfl, i1 0 0 8 rfl]; exact (hup k hk).2
    obtain ⟨q, q1, q2, q3, q4⟩ := i4.1 k hk10
    obtain ⟨mn, al, s1, s2, s3, s4', s5⟩ := i4.2.2.2.2.2.2.2.1 k (by omega)
    have e9 : cg M 9 k 2 = rg N 1316 0 (5 * k + 2) := i4.2.2.1 k 2 hk10 (by omega)
    obtain ⟨e14, e14'⟩ := i4.2.2.2.2.2.1 k hk10
    have hR9 : rg N 1316 0 (5 * k + 2) = nI mn := by rw [← e9, s3]
    have skip : ∃ MC' MR', m0_queueSums_19 f D (cg MC 401 0 4) (nI k + 1) M = some MC' ∧ m12_queueSums_39 (f + 1) (nI t) D' (nI k + 1) N = some MR' ∧ eF eKQ MC MC' ∧ MC'.2 = MC.2 ∧ eH [1314, 1315, 1317] MR MR' ∧ eG3 m MC' MR' := by
      rw [ep1]
      exact ih (M, N) ⟨i1, i2, i3, i4⟩
    have n10 : ((1 : Int32) = 0) = False := eq_false (by decide)
    have n1i : (nI 1 = 0) = False := eq_false (by decide)
    have ep : cg M 2 k 7 = rg N 1309 0 k := (G2.1 k hk).1
    rw [m0_queueSums_19, m12_queueSums_39]
    simp only [e34, e12, eI_le (show m < 2 ^ 31 by omega) (show k < 2 ^ 31 by omega), show (m ≤ k) = False from eq_false (by omega), of_y hk10, blt_t hk10, ep, eu, isIn_c (show k < 32 by omega), uns_c hk10 s1 s3 e9.symm e14.symm, cnt_c G1 G2 hm hk, ezin_nI (show k < 10 by omega) (show 10 < 2 ^ 31 by decide), ex_nI (show k < 2 ^ 31 by omega), e5, show (2 : Int32) = nI 2 from rfl, eI_add, ezin_nI (show 5 * k + 2 < 55 by omega) (show 55 < 2 ^ 31 by decide), ex_nI (show 5 * k + 2 < 2 ^ 31 by omega), hR9, eI_pos (show mn < 2 ^ 31 by omega), q3, full_c hk10 q2 q1, e06, e35, m0_queueSums_131, m12_queueSums_103, m12_queueSums_213, n10, zbd_s, zbv_s, zgd_t, Bool.and_true, Bool.true_and, Bool.and_self, if_true, if_false, e_01, eq_self, Bool.false_eq_true]
    by_cases hp : rg N 1309 0 k = -1
    · simp only [hp, zbd_s, zbv_s, zgd_t, Bool.and_true, Bool.true_and, Bool.and_self, if_true, if_false, e_01, eq_self, Bool.false_eq_true]
      rcases Bool.eq_false_or_eq_true (eb (cg M 0 0 8) k) with hu | hu
      · simp only [hu, n10, zbd_s, zbv_s, zgd_t, Bool.and_true, Bool.true_and, Bool.and_self, if_true, if_false, e_01, eq_self, Bool.false_eq_true]; exact skip
      · simp only [hu, zbd_s, zbv_s, zgd_t, Bool.and_true, Bool.true_and, Bool.and_self, if_true, if_false, e_01, eq_self, Bool.false_eq_true]; exact skip
    rcases (Bool.eq_false_or_eq_true (eb (cg M 0 0 8) k)).symm with hu | hu
    · simp only [hp, hu, zbd_s, zbv_s, zgd_t, Bool.and_true, Bool.true_and, Bool.and_self, if_true, if_false, e_01, eq_self, Bool.false_eq_true]; exact skip
    by_cases hmn : mn = 0
    · have : eUn N k = 0 := by unfold eUn; rw [hR9, hmn, if_pos (by decide)]
      simp only [hp, hu, n10, this, hmn, zbd_s, zbv_s, zgd_t, Bool.and_true, Bool.true_and, Bool.and_self, if_true, if_false, e_01, eq_self, Bool.false_eq_true]; exact skip
    have hpos : ¬ rg N 1316 0 (5 * k + 2) ≤ 0 := by rw [hR9, eI_pos (by omega)]; exact hmn
    rcases (Classical.em (rg N 1317 0 k = 0)).symm with hs0 | hs0
    · have : eUn N k = 0 := by unfold eUn; rw [if_neg hpos, if_neg hs0]
      simp only [hp, hu, n10, this, hmn, hs0, zbd_s, zbv_s, zgd_t, Bool.and_true, Bool.true_and, Bool.and_self, if_true, if_false, e_01, eq_self, Bool.false_eq_true]; exact skip
    have hun : eUn N k = 1 := by unfold eUn; rw [if_neg hpos, if_pos hs0]
    have hcn : eCnt N k = rg N 1308 0 k := by unfold eCnt; rw [if_neg (by omega)]
    have hcn' : eCnt MR k = rg MR 1308 0 k := by unfold eCnt; rw [if_neg (by omega)]
    have hD : D' = D := by
      rcases d3 with ⟨a1, a2⟩ | ⟨a1, a2⟩
      · exfalso
        have := d4 k hk
        rw [hcn', a1, ← i3 1308 0 k rfl] at this
        rcases (G2.1 k hk).2.2 with ⟨h, -⟩ | ⟨-, h, -⟩
        · exact hp h
        · lia
      · exact a1.symm
    subst hD
    have e31 : rg N 1312 0 4 = cg MC 401 0 4 := by rw [i3 1312 0 4 rfl]; exact s4.1.symm
    have x4 : ((4 : Int32) ≤ nI q) = (4 ≤ q) := by rw [show (4 : Int32) = nI 4 from rfl, eI_le (by omega) (by omega)]
    simp only [hp, hu, n10, hun, hmn, hs0, hcn, e18, nx_k 4 (by omega), e31, show zin 4 7 = true from rfl, x4, zbd_s, zbv_s, zgd_t, Bool.and_true, Bool.true_and, Bool.and_self, if_true, if_false, e_01, eq_self, Bool.false_eq_true]
    by_cases hq4 : q = 4
    · by_cases htm : (rg MR 12 0 18 + cg MC 401 0 4 * (D' - rg N 1308 0 k)) ≤ nI t
      · simp only [hq4, htm, n10, n1i, Nat.le_refl, zbd_s, zbv_s, zgd_t, Bool.and_true, Bool.true_and, Bool.and_self, if_true, if_false, e_01, eq_self, Bool.false_eq_true]
        exact skip
      · simp only [hq4, htm, n10, n1i, Nat.le_refl, zbd_s, zbv_s, zgd_t, Bool.and_true, Bool.true_and, Bool.and_self, if_true, if_false, e_01, eq_self, Bool.false_eq_true]
        exact skip
    · simp only [hq4, show ¬ 4 ≤ q by omega, n10, zbd_s, zbv_s, zgd_t, Bool.and_true, Bool.true_and, Bool.and_self, if_true, if_false, e_01, eq_self, Bool.false_eq_true]
      by_cases htm : (rg MR 12 0 18 + cg MC 401 0 4 * (D' - rg N 1308 0 k)) ≤ nI t
      · obtain ⟨M', N', w1, w2, w3, w4, w5, w6⟩ := put_x (m12_queueSums_39 (f + 1)) (nI t) D' (MC := M) (MR := N) i4 hk hm (by omega) q2 (by rw [e14, hs0]) (by rw [s3, eI_0 (by omega)]; exact hmn)
        simp only [htm, n1i, Int32.not_lt.mpr htm, blt_t (show k < 51 by omega), w1, e24, e6, eI_add, ezin_nI (show 24 * k + 6 * q < 240 by omega) (show 240 < 2 ^ 31 by decide), ex_nI (show 24 * k + 6 * q < 2 ^ 31 by omega), w2, ep1, zbd_s, zbv_s, zgd_t, Bool.and_true, Bool.true_and, Bool.and_self, if_true, if_false, e_01, eq_self, Bool.false_eq_true]
        exact ih (cs M' 2 k 14 1, N') ⟨eF_trans i1 w3, w4.trans i2, eH_trans i3 w5, w6⟩
      · simp only [htm, n1i, Int32.not_le.mp htm, zbd_s, zbv_s, zgd_t, Bool.and_true, Bool.true_and, Bool.and_self, if_true, if_false, e_01, eq_self, Bool.false_eq_true]
        exact skip
