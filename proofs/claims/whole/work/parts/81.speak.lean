/-! speaking -/
theorem eH_both {K : List Nat} {N X : rM} (h : eH K N X) (k i s : Nat) (v : Int32) : eH K (rs N k i s v) (rs X k i s v) := by
  intro k' i' s' hk
  rw [rg_rs, rg_rs, h k' i' s' hk]
theorem eF_both {K : List Nat} {N X : cM} (h : eF K N X) (k i s : Nat) (v : Int32) : eF K (cs N k i s v) (cs X k i s v) := by
  intro k' i' s' hk
  rw [cg_cs, cg_cs, h k' i' s' hk]
theorem say64_e {b : Nat} {MR : rM} (k2 : Int32 → rM → Option rM) (hb : b < 10) : ∃ MR', m12_speak_64 k2 zfu (nI b) 0 MR = m12_speak_100 k2 zfu (nI b) 0 MR' ∧ eH [1325] MR MR' ∧ (∀ s, s < 6 → rg MR' 1325 0 (6 * b + s) = rg MR 1315 0 (24 * b + s)) ∧ ∀ j, (j < 6 * b ∨ 6 * b + 6 ≤ j) → rg MR' 1325 0 j = rg MR 1325 0 j := by
  refine eloop (σ := rM) (fun f k M => ∃ MR', m12_speak_64 k2 f (nI b) (nI k) M = m12_speak_100 k2 zfu (nI b) 0 MR' ∧ eH [1325] MR MR' ∧ (∀ s, s < 6 → rg MR' 1325 0 (6 * b + s) = rg MR 1315 0 (24 * b + s)) ∧ ∀ j, (j < 6 * b ∨ 6 * b + 6 ≤ j) → rg MR' 1325 0 j = rg MR 1325 0 j) (fun k M => eH [1325] MR M ∧ (∀ s, s < k → rg M 1325 0 (6 * b + s) = rg MR 1315 0 (24 * b + s)) ∧ ∀ j, (j < 6 * b ∨ 6 * b + 6 ≤ j) → rg M 1325 0 j = rg MR 1325 0 j) (m := 6) (k0 := 0) (by omega) ?_ ?_ (zfu_gt (by omega)) ⟨eH_refl, fun s hs => absurd hs (by omega), fun _ _ => rfl⟩
  · rintro f M ⟨i1, i2, i3⟩
    exact ⟨M, by rw [m12_speak_64, if_pos (show (6 : Int32) ≤ nI 6 from by decide)], i1, i2, i3⟩
  · rintro f k M hk0 hk ⟨i1, i2, i3⟩ ih
    have c6 : ((6 : Int32) ≤ nI k) = False := eq_false (by rw [show (6 : Int32) = nI 6 from rfl, eI_le (by omega) (by omega)]; omega)
    rw [m12_speak_64]
    simp only [c6, e6, e24, eI_add, ep1, ezin_nI (show 24 * b + k < 240 by omega) (show 240 < 2 ^ 31 by decide), ex_nI (show 24 * b + k < 2 ^ 31 by omega), ezin_nI (show 6 * b + k < 60 by omega) (show 60 < 2 ^ 31 by decide), ex_nI (show 6 * b + k < 2 ^ 31 by omega), zbd_s, zbv_s, zgd_t, Bool.and_true, Bool.true_and, Bool.and_self, if_true, if_false, e_01, eq_self, Bool.false_eq_true]
    refine ih _ ⟨eH_rs i1 rfl, fun s hs => ?_, fun j hj => ?_⟩
    · by_cases hsk : s = k
      · subst hsk
        rw [rg_rs, if_pos ⟨rfl, rfl, rfl⟩]; exact i1 1315 0 _ rfl
      · rw [rg_rs, if_neg (by omega)]; exact i2 s (by omega)
    · rw [rg_rs, if_neg (by omega)]; exact i3 j hj
theorem say100_e {b q : Nat} {MR : rM} (k2 : Int32 → rM → Option rM) (hb : b < 10) (h1 : rg MR 1314 0 b = nI (q + 1)) : ∃ X, m12_speak_100 k2 zfu (nI b) 0 MR = k2 (nI (b + 1)) (rs (rs (rs X 1314 0 b (nI q)) 1302 0 b (eSp (rg MR 1302 0 b) (rg MR 1312 0 2))) 1319 0 7 (rg MR 1319 0 7 + 1)) ∧ eH [1315] MR X ∧ (∀ s, s < 18 → rg X 1315 0 (24 * b + s) = rg MR 1315 0 (24 * b + 6 + s)) ∧ ∀ j, (j < 24 * b ∨ 24 * b + 18 ≤ j) → rg X 1315 0 j = rg MR 1315 0 j := by
  refine eloop (σ := rM) (fun f k M => ∃ X, m12_speak_100 k2 f (nI b) (nI k) M = k2 (nI (b + 1)) (rs (rs (rs X 1314 0 b (nI q)) 1302 0 b (eSp (rg MR 1302 0 b) (rg MR 1312 0 2))) 1319 0 7 (rg MR 1319 0 7 + 1)) ∧ eH [1315] MR X ∧ (∀ s, s < 18 → rg X 1315 0 (24 * b + s) = rg MR 1315 0 (24 * b + 6 + s)) ∧ ∀ j, (j < 24 * b ∨ 24 * b + 18 ≤ j) → rg X 1315 0 j = rg MR 1315 0 j) (fun k M => eH [1315] MR M ∧ (∀ s, s < k → rg M 1315 0 (24 * b + s) = rg MR 1315 0 (24 * b + 6 + s)) ∧ ∀ j, (j < 24 * b ∨ 24 * b + k ≤ j) → rg M 1315 0 j = rg MR 1315 0 j) (m := 18) (k0 := 0) (by omega) ?_ ?_ (zfu_gt (by omega)) ⟨eH_refl, fun s hs => absurd hs (by omega), fun _ _ => rfl⟩
  · rintro f M ⟨i1, i2, i3⟩
    refine ⟨M, ?_, i1, i2, i3⟩
    have e1 : rg M 1314 0 b = nI (q + 1) := by rw [i1 1314 0 b rfl, h1]
    have e2 : rg (rs M 1314 0 b (nI q)) 1312 0 2 = rg MR 1312 0 2 := by rw [rg_rs, if_neg (by omega)]; exact i1 1312 0 2 rfl
    have e3 : rg (rs M 1314 0 b (nI q)) 1302 0 b = rg MR 1302 0 b := by rw [rg_rs, if_neg (by omega)]; exact i1 1302 0 b rfl
    have e4 : rg (rs (rs M 1314 0 b (nI q)) 1302 0 b (eSp (rg MR 1302 0 b) (rg MR 1312 0 2))) 1319 0 7 = rg MR 1319 0 7 := by rw [rg_rs, if_neg (by omega), rg_rs, if_neg (by omega)]; exact i1 1319 0 7 rfl
    rw [m12_speak_100, if_pos (show (18 : Int32) ≤ nI 18 from by decide)]
    simp only [ezin_nI (show b < 10 by omega) (show 10 < 2 ^ 31 by decide), ex_nI (show b < 2 ^ 31 by omega), e1, nI_sub1, nx_k 2 (by omega), nx_k 7 (by omega), show zin 2 7 = true from rfl, show zin 7 8 = true from rfl, e2, spend_e hb, e3, e4, m12_speak_169, ep1, zbd_s, zbv_s, zgd_t, Bool.and_true, Bool.true_and, Bool.and_self, if_true, if_false, e_01, eq_self, Bool.false_eq_true]
  · rintro f k M hk0 hk ⟨i1, i2, i3⟩ ih
    have c6 : ((18 : Int32) ≤ nI k) = False := eq_false (by rw [show (18 : Int32) = nI 18 from rfl, eI_le (by omega) (by omega)]; omega)
    rw [m12_speak_100]
    simp only [c6, e24, show (6 : Int32) = nI 6 from rfl, eI_add, ep1, ezin_nI (show 24 * b + k < 240 by omega) (show 240 < 2 ^ 31 by decide), ex_nI (show 24 * b + k < 2 ^ 31 by omega), ezin_nI (show 24 * b + 6 + k < 240 by omega) (show 240 < 2 ^ 31 by decide), ex_nI (show 24 * b + 6 + k < 2 ^ 31 by omega), zbd_s, zbv_s, zgd_t, Bool.and_true, Bool.true_and, Bool.and_self, if_true, if_false, e_01, eq_self, Bool.false_eq_true]
    refine ih _ ⟨eH_rs i1 rfl, fun s hs => ?_, fun j hj => ?_⟩
    · by_cases hsk : s = k
      · subst hsk
        rw [rg_rs, if_pos ⟨rfl, rfl, rfl⟩]; exact i3 _ (by omega)
      · rw [rg_rs, if_neg (by omega)]; exact i2 s (by omega)
    · rw [rg_rs, if_neg (by omega)]; exact i3 j (by omega)
/-- box b's first word is on the air now -/
theorem say_x {sp : Nat → Bool} {m b q : Nat} {MC MC' : cM} {MR MR' : rM} (h : eG3y sp m MC MR) (hb : b < m) (hm : m ≤ 10) (hsp : sp b = false) (h2 : rg MR 1314 0 b = nI (q + 1)) (hq : q ≤ 3) (hC : eF [10009, 10202, 103] MC MC') (hP : MC'.2 = MC.2) (hR : eH [1302, 1314, 1315, 1319, 1324, 1325] MR MR') (hR4 : rg MR' 1314 0 b = nI q ∧ ∀ c, c ≠ b → rg MR' 1314 0 c = rg MR 1314 0 c) (hR5 : (∀ s, s < 18 → rg MR' 1315 0 (24 * b + s) = rg MR 1315 0 (24 * b + 6 + s)) ∧ ∀ j, (j < 24 * b ∨ 24 * b + 18 ≤ j) → rg MR' 1315 0 j = rg MR 1315 0 j) (hR6 : (∀ s, s < 6 → rg MR' 1325 0 (6 * b + s) = rg MR 1315 0 (24 * b + s)) ∧ ∀ j, (j < 6 * b ∨ 6 * b + 6 ≤ j) → rg MR' 1325 0 j = rg MR 1325 0 j) : eG3y (fun c => sp c || decide (c = b)) m MC' MR' := by
  have h9 := cg9_fr hC rfl
  have hp : ∀ kk i s, cp MC' kk i s = cp MC kk i s := fun kk i s => by unfold cp; rw [hP]
  obtain ⟨r1, r2, r3, r4, r5, r6, r7, r8⟩ := h
  refine ⟨fun c hc => ?_, ?_, fun c s hc hs => ?_, fun s hs => ?_, ?_, fun c hc => ?_, fun c hc hmc => ?_, fun i hi => eSm_eq (r8 i hi) (h9 i)⟩
  · by_cases hcb : c = b
    · subst hcb
      refine ⟨fun hs => by simp at hs, fun _ => ?_⟩
      obtain ⟨q', q1, q2, q3, q4⟩ := (r1 c hc).1 hsp
      have : q' = q + 1 := by
        rw [q3, eI_inj (by omega) (by omega)] at h2; exact h2
      subst this
      refine ⟨q, hq, by rw [hC 8 c 2 rfl, q2], hR4.1, ?_, fun k hk => ?_⟩
      · exact eEnA_eq (K := 1315) (a := 24 * c + 6 * 0) (q4 0 (by omega)) (hC 900 c 0 rfl) (fun _ s hs => by rw [hp, h9 _ s hs]) (fun s hs => hR6.1 s hs)
      · refine eEnA_eq (K := 1315) (a := 24 * c + 6 * (k + 1)) (q4 (k + 1) (by omega)) (hC 900 c _ rfl) (fun _ s hs => by rw [hp, h9 _ s hs]) (fun s hs => ?_)
        rw [show 24 * c + 6 * k + s = 24 * c + (6 * k + s) by omega, hR5.1 _ (by omega)]
        congr 1; omega
    · have hd : (sp c || decide (c = b)) = sp c := by simp [hcb]
      show eRx (sp c || decide (c = b)) c MC' MR'
      rw [hd]
      refine ⟨fun hs => ?_, fun hs => ?_⟩
      · obtain ⟨q', q1, q2, q3, q4⟩ := (r1 c hc).1 hs
        exact ⟨q', q1, by rw [hC 8 c 2 rfl, q2], by rw [hR4.2 c hcb, q3], fun k hk => eEnA_eq (K := 1315) (a := 24 * c + 6 * k) (q4 k hk) (hC 900 c k rfl) (fun _ s hs => by rw [hp, h9 _ s hs]) (fun s hs => hR5.2 _ (by omega))⟩
      · obtain ⟨q', q1, q2, q3, q4, q5⟩ := (r1 c hc).2 hs
        exact ⟨q', q1, by rw [hC 8 c 2 rfl, q2], by rw [hR4.2 c hcb, q3], eEnA_eq q4 (hC 900 c 0 rfl) (fun _ s hs => by rw [hp, h9 _ s hs]) (fun s hs => hR6.2 _ (by omega)), fun k hk => eEnA_eq (q5 k hk) (hC 900 c _ rfl) (fun _ s hs => by rw [hp, h9 _ s hs]) (fun s hs => hR5.2 _ (by omega))⟩
  · unfold ePt; simp only [hp]; exact r2
  · rw [h9 c s hs, hR 1316 0 _ rfl]; exact r3 c s hc hs
  · rw [h9 50 s hs, hR 1316 0 _ rfl]; exact r4 s hs
  · rw [h9 0 2 (by omega)]; exact r5
  · rw [hC 2 c 14 rfl, hR 1317 0 c rfl]; exact r6 c hc
  · obtain ⟨x1, x2, x3⟩ := r7 c hc hmc
    exact ⟨by rw [hC 8 c 2 rfl, x1], by rw [hC 2 c 14 rfl, x2], fun s hs => by rw [h9 c s hs, x3 s hs]⟩
/-- who speaks in this tick -/
def eSpk (m : Nat) (MC : cM) (MR : rM) (b : Nat) : Bool := decide (b < m) && (eb (cg MC 0 0 8) b && (!decide (rg MR 1309 0 b = -1) && !decide (rg MR 1314 0 b = 0)))
def eTly (M : cM) (N : rM) : Prop := ∀ j : Nat, j < 8 → cg M 103 0 j = rg N 1319 0 j
theorem speak_cr {m t : Nat} {MC : cM} {MR : rM} (hm : m ≤ 10) (g0 : eG0 m t MC MR) (g1 : eG1 m MC MR) (g2 : eG2 m MC MR) (g3 : eG3y (fun _ => false) m MC MR) (hup : eUp m MC MR) (hty : eTly MC MR) : ∃ MC' MR', m0_speak MC = some MC' ∧ m12_speak MR = some MR' ∧ eF [10009, 10202, 103] MC MC' ∧ MC'.2 = MC.2 ∧ eH [1302, 1314, 1315, 1319, 1324, 1325] MR MR' ∧ eG1 m MC' MR' ∧ eG3y (eSpk m MC MR) m MC' MR' ∧ eTly MC' MR' ∧ (∀ j, j < 32 → eb (cg MC' 0 0 9) j = eSpk m MC MR j) ∧ ∀ j, j < m → rg MR' 1324 0 j = if eSpk m MC MR j then 1 else 0 := by
  have n10 : ((1 : Int32) = 0) = False := eq_false (by decide)
  unfold m0_speak m12_speak
  refine eloop (σ := cM × rM) (fun f k s => ∃ MC' MR', m0_speak_7 f (nI k) s.1 = some MC' ∧ m12_speak_2 f (nI k) s.2 = some MR' ∧ eF [10009, 10202, 103] MC MC' ∧ MC'.2 = MC.2 ∧ eH [1302, 1314, 1315, 1319, 1324, 1325] MR MR' ∧ eG1 m MC' MR' ∧ eG3y (eSpk m MC MR) m MC' MR' ∧ eTly MC' MR' ∧ (∀ j, j < 32 → eb (cg MC' 0 0 9) j = eSpk m MC MR j) ∧ ∀ j, j < m → rg MR' 1324 0 j = if eSpk m MC MR j then 1 else 0) (fun k s => eF [10009, 10202, 103] MC s.1 ∧ s.1.2 = MC.2 ∧ eH [1302, 1314, 1315, 1319, 1324, 1325] MR s.2 ∧ eG1 m s.1 s.2 ∧ eG3y (fun b => eSpk m MC MR b && decide (b < k)) m s.1 s.2 ∧ eTly s.1 s.2 ∧ (∀ j, j < 32 → eb (cg s.1 0 0 9) j = (eSpk m MC MR j && decide (j < k))) ∧ (∀ j, j < k → rg s.2 1324 0 j = if eSpk m MC MR j then 1 else 0) ∧ ∀ j, k ≤ j → rg s.2 1314 0 j = rg MR 1314 0 j) (s := (cs MC 0 0 9 0, MR)) (m := m) (k0 := 0) (by omega) ?_ ?_ (zfu_gt (by omega)) ⟨(by repeat (first | exact eF_refl | refine eF_cs ?_ rfl)), rfl, eH_refl, eG1_fr g1 (K := [10009]) (K' := []) (by repeat (first | exact eF_refl | refine eF_cs ?_ rfl)) eH_refl rfl rfl, ?_, fun j hj => hty j hj, fun j _ => ?_, fun j hj => absurd hj (by omega), fun _ _ => rfl⟩
  · rintro f ⟨M, N⟩ ⟨i1, i2, i3, i4, i5, i6, i7, i8, i9⟩
    have hdm : ∀ j, (eSpk m MC MR j && decide (j < m)) = eSpk m MC MR j := by
      intro j
      unfold eSpk
      by_cases hj : j < m <;> simp [hj]
    refine ⟨M, N, ?_, ?_, i1, i2, i3, i4, eG3y_sp i5 (fun b _ => (hdm b).symm), i6, fun j hj => by rw [i7 j hj, hdm], i8⟩
    · dsimp only
      rw [m0_speak_7, i1 3 0 4 rfl, g0.1, if_pos (by rw [eI_le (by omega) (by omega)]; omega)]
    · dsimp only
      rw [m12_speak_2, i3 12 0 0 rfl, g0.2.1, if_pos (by rw [eI_le (by omega) (by omega)]; omega)]
  · rintro f k ⟨M, N⟩ hk0 hk ⟨i1, i2, i3, i4, i5, i6, i7, i8, i9⟩ ih
    dsimp only at i1 i2 i3 i4 i5 i6 i7 i8 i9 ⊢
    have hk10 : k < 10 := by omega
    have G2 := eG2_fr g2 i1 i3 rfl rfl
    have e34 : cg M 3 0 4 = nI m := by rw [i1 3 0 4 rfl, g0.1]
    have e12 : rg N 12 0 0 = nI m := by rw [i3 12 0 0 rfl, g0.2.1]
    have e08 : cg M 0 0 8 = cg MC 0 0 8 := i1 0 0 8 rfl
    have eu : rg N 1322 0 k = if eb (cg MC 0 0 8) k then 1 else 0 := by rw [i3 1322 0 k rfl]; exact (hup k hk).2
    have ep : cg M 2 k 7 = rg N 1309 0 k := (G2.1 k hk).1
    have eq9 : rg N 1309 0 k = rg MR 1309 0 k := i3 1309 0 k rfl
    have e14 : rg N 1314 0 k = rg MR 1314 0 k := i9 k (Nat.le_refl k)
    have hspk : (eSpk m MC MR k && decide (k < k)) = false := by simp
    obtain ⟨q, q1, q2, q3, q4⟩ := (i5.1 k hk10).1 hspk
    have hSk : eSpk m MC MR k = (eb (cg MC 0 0 8) k && (!decide (rg N 1309 0 k = -1) && !decide (q = 0))) := by
      unfold eSpk
      have hdq : decide (nI q = 0) = decide (q = 0) := decide_eq_decide.mpr (by rw [eI_0 (by omega)])
      rw [← eq9, ← e14, q3, hdq]
      simp [hk]
    have hdec : ∀ j, j ≠ k → (eSpk m MC MR j && decide (j < k + 1)) = (eSpk m MC MR j && decide (j < k)) := by
      intro j hj
      have : decide (j < k + 1) = decide (j < k) := by congr 1; refine propext ?_; omega
      rw [this]
    have e0 : k = 0 → rg N 1309 0 k = -1 := by
      intro h
      rcases (G2.1 k hk).2.2 with ⟨h2, -⟩ | ⟨h2, -⟩
      · exact h2
      · omega
    have skip : eSpk m MC MR k = false → ∃ MC' MR', m0_speak_7 f (nI (k + 1)) M = some MC' ∧ m12_speak_2 f (nI (k + 1)) (rs N 1324 0 k 0) = some MR' ∧ eF [10009, 10202, 103] MC MC' ∧ MC'.2 = MC.2 ∧ eH [1302, 1314, 1315, 1319, 1324, 1325] MR MR' ∧ eG1 m MC' MR' ∧ eG3y (eSpk m MC MR) m MC' MR' ∧ eTly MC' MR' ∧ (∀ j, j < 32 → eb (cg MC' 0 0 9) j = eSpk m MC MR j) ∧ ∀ j, j < m → rg MR' 1324 0 j = if eSpk m MC MR j then 1 else 0 := by
      intro hf
      have fN : eH [1324] N (rs N 1324 0 k 0) := (by repeat (first | exact eH_refl | refine eH_rs ?_ rfl | refine eH_rsl ?_))
      refine ih (M, rs N 1324 0 k 0) ⟨i1, i2, eH_trans i3 (eH_mono fN rfl), eG1_fr i4 (eF_refl (K := [])) fN rfl rfl, eG3y_sp (eG3y_fr i5 (eF_refl (K := [])) fN rfl rfl rfl rfl) (fun b _ => ?_), fun j hj => by rw [fN 1319 0 j rfl]; exact i6 j hj, fun j hj => ?_, fun j hj => ?_, fun j hj => by rw [fN 1314 0 j rfl]; exact i9 j (by omega)⟩
      · by_cases hbk : b = k
        · rw [hbk, hf]; rfl
        · exact hdec b hbk
      · dsimp only
        rw [i7 j hj]
        by_cases hbk : j = k
        · rw [hbk, hf]; rfl
        · exact (hdec j hbk).symm
      · dsimp only
        by_cases hbk : j = k
        · rw [hbk, hf, rg_rs, if_pos ⟨rfl, rfl, rfl⟩]; rfl
        · rw [rg_rs, if_neg (fun h => hbk h.2.2)]; exact i8 j (by omega)
    rw [m0_speak_7, m12_speak_2]
    have g1324 : ∀ v : Int32, rg (rs N 1324 0 k v) 1324 0 k = v := fun v => by rw [rg_rs, if_pos ⟨rfl, rfl, rfl⟩]
    simp only [e34, e12, eI_le (show m < 2 ^ 31 by omega) (show k < 2 ^ 31 by omega), show (m ≤ k) = False from eq_false (by omega), of_y hk10, blt_t hk10, ep, e08, eu, isIn_c (show k < 32 by omega), ezin_nI (show k < 10 by omega) (show 10 < 2 ^ 31 by decide), ex_nI (show k < 2 ^ 31 by omega), q2, q3, eI_pos (show k < 2 ^ 31 by omega), eI_pos (show q < 2 ^ 31 by omega), eI_0 (show q < 2 ^ 31 by omega), m0_speak_94, m12_speak_52, m12_speak_169, nar0, nar1, g1324, n10, ep1, zbd_s, zbv_s, zgd_t, Bool.and_true, Bool.true_and, Bool.and_self, if_true, if_false, e_01, eq_self, Bool.false_eq_true]
    by_cases hp : rg N 1309 0 k = -1
    · have hf : eSpk m MC MR k = false := by rw [hSk]; simp [hp]
      simp only [hp, zbd_s, zbv_s, zgd_t, Bool.and_true, Bool.true_and, Bool.and_self, if_true, if_false, e_01, eq_self, Bool.false_eq_true]
      rcases Bool.eq_false_or_eq_true (eb (cg MC 0 0 8) k) with hu | hu
      · by_cases hk00 : k = 0
        · simp only [hk00, hu, n10, zbd_s, zbv_s, zgd_t, Bool.and_true, Bool.true_and, Bool.and_self, if_true, if_false, e_01, eq_self, Bool.false_eq_true]; simp only [hk00] at skip hf; exact skip hf
        · simp only [hk00, hu, n10, zbd_s, zbv_s, zgd_t, Bool.and_true, Bool.true_and, Bool.and_self, if_true, if_false, e_01, eq_self, Bool.false_eq_true]; exact skip hf
      · by_cases hk00 : k = 0
        · simp only [hk00, hu, n10, zbd_s, zbv_s, zgd_t, Bool.and_true, Bool.true_and, Bool.and_self, if_true, if_false, e_01, eq_self, Bool.false_eq_true]; simp only [hk00] at skip hf; exact skip hf
        · simp only [hk00, hu, n10, zbd_s, zbv_s, zgd_t, Bool.and_true, Bool.true_and, Bool.and_self, if_true, if_false, e_01, eq_self, Bool.false_eq_true]; exact skip hf
    have hk00 : ¬ k = 0 := fun h => hp (e0 h)
    rcases (Bool.eq_false_or_eq_true (eb (cg MC 0 0 8) k)).symm with hu | hu
    · have hf : eSpk m MC MR k = false := by rw [hSk]; simp [hu]
      simp only [hp, hk00, hu, zbd_s, zbv_s, zgd_t, Bool.and_true, Bool.true_and, Bool.and_self, if_true, if_false, e_01, eq_self, Bool.false_eq_true]; exact skip hf
    by_cases hq0 : q = 0
    · have hf : eSpk m MC MR k = false := by rw [hSk]; simp [hq0]
      simp only [hp, hk00, hu, hq0, n10, zbd_s, zbv_s, zgd_t, Bool.and_true, Bool.true_and, Bool.and_self, if_true, if_false, e_01, eq_self, Bool.false_eq_true]; exact skip hf
    obtain ⟨r, rfl⟩ : ∃ r, q = r + 1 := ⟨q - 1, by omega⟩
    have ht : eSpk m MC MR k = true := by rw [hSk]; simp [hu, hp]
    obtain ⟨Na, hNa⟩ : ∃ X, X = rs N 1324 0 k 1 := ⟨_, rfl⟩
    have fa : eH [1324] N Na := by rw [hNa]; exact (by repeat (first | exact eH_refl | refine eH_rs ?_ rfl | refine eH_rsl ?_))
    obtain ⟨Nb, b1, b2, b3, b4⟩ := say64_e (MR := Na) (m12_speak_2 f) hk10
    obtain ⟨X, x1, x2, x3, x4⟩ := say100_e (MR := Nb) (q := r) (m12_speak_2 f) hk10 (by rw [b2 1314 0 k rfl, fa 1314 0 k rfl, q3])
    have s2 : rg Nb 1312 0 2 = rg MR 1312 0 2 := by rw [b2 1312 0 2 rfl, fa 1312 0 2 rfl, i3 1312 0 2 rfl]
    have sC : cg M 401 0 2 = rg MR 1312 0 2 := by rw [i1 401 0 2 rfl]; exact (g0.2.2.2.2 2 (by omega)).1
    have pw := (i4.1 k hk10).2.2.1
    have pwb : rg Nb 1302 0 k = rg N 1302 0 k := by rw [b2 1302 0 k rfl, fa 1302 0 k rfl]
    have ty : rg Nb 1319 0 7 = cg M 103 0 7 := by rw [b2 1319 0 7 rfl, fa 1319 0 7 rfl]; exact (i6 7 (by omega)).symm
    obtain ⟨w, hw⟩ : ∃ w, w = eSp (rg N 1302 0 k) (rg MR 1312 0 2) := ⟨_, rfl⟩
    have hw0 : 0 ≤ w ∧ w ≤ 30000 := by rw [hw]; exact eSp_ok pw.2.1 pw.2.2 (g0.2.2.2.2 2 (by omega)).2.1
    rw [pwb, s2, ← hw, ty] at x1
    have sCx : ∀ v, cg (cs M 0 0 9 v) 401 0 2 = rg MR 1312 0 2 := fun v => by rw [cg_cs, if_neg (by omega), sC]
    have pwx : ∀ v, cg (cs M 0 0 9 v) 2 k 2 = rg N 1302 0 k := fun v => by rw [cg_cs, if_neg (by omega), pw.1]
    have tyx : ∀ v u, cg (cs (cs M 0 0 9 v) 2 k 2 u) 103 0 7 = cg M 103 0 7 := fun v u => by rw [cg_cs, if_neg (by omega), cg_cs, if_neg (by omega)]
    rw [hNa] at b1
    simp only [hp, hk00, hu, show ¬ r + 1 = 0 by omega, n10, show (2 : Int32) = nI 2 from rfl, set_c (show 2 < 7 by omega), sCx, spend_c hk10, pwx, ← hw, nx_k 7 (by omega), show zin 7 8 = true from rfl, tyx, b1, x1, zbd_s, zbv_s, zgd_t, Bool.and_true, Bool.true_and, Bool.and_self, if_true, if_false, e_01, eq_self, Bool.false_eq_true]
    obtain ⟨v9, hv9⟩ : ∃ v, v = cg M 0 0 9 ||| zshl 1 (nI k) := ⟨_, rfl⟩
    rw [← hv9]
    have fX : eH [1315, 1324, 1325] N X := eH_trans (eH_mono fa rfl) (eH_trans (eH_mono b2 rfl) (eH_mono x2 rfl))
    have fC : eF [10009, 10202, 103] M (cs (cs (cs M 0 0 9 v9) 2 k 2 w) 103 0 7 (cg M 103 0 7 + 1)) := (by repeat (first | exact eF_refl | refine eF_cs ?_ rfl))
    have fR : eH [1302, 1314, 1315, 1319, 1324, 1325] N (rs (rs (rs X 1314 0 k (nI r)) 1302 0 k w) 1319 0 7 (cg M 103 0 7 + 1)) := eH_rs (eH_rs (eH_rs (eH_mono fX rfl) rfl) rfl) rfl
    obtain ⟨N', hN'⟩ : ∃ Y, Y = rs (rs (rs X 1314 0 k (nI r)) 1302 0 k w) 1319 0 7 (cg M 103 0 7 + 1) := ⟨_, rfl⟩
    obtain ⟨M', hM'⟩ : ∃ Y, Y = cs (cs (cs M 0 0 9 v9) 2 k 2 w) 103 0 7 (cg M 103 0 7 + 1) := ⟨_, rfl⟩
    have gN : ∀ K j, K ≠ 1314 → K ≠ 1302 → K ≠ 1319 → rg N' K 0 j = rg X K 0 j := fun K j h1 h2 h3 => by
      rw [hN', rg_rs, if_neg (fun h => h3 h.1), rg_rs, if_neg (fun h => h2 h.1), rg_rs, if_neg (fun h => h1 h.1)]
    have g14 : ∀ j, rg N' 1314 0 j = if j = k then nI r else rg N 1314 0 j := fun j => by
      rw [hN', rg_rs, if_neg (by omega), rg_rs, if_neg (by omega), rg_rs]
      by_cases hj : j = k
      · rw [if_pos ⟨rfl, rfl, hj⟩, if_pos hj]
      · rw [if_neg (fun h => hj h.2.2), if_neg hj]; exact fX 1314 0 j rfl
    have G1 : eG1 m M' N' := by
      refine eG1_fr (eG1_pow (b := k) i4 hw0) (K := [10009, 103]) (K' := [1314, 1315, 1319, 1324, 1325]) ?_ ?_ rfl rfl
      · rw [hM']; exact eF_cs (eF_both (eF_cs eF_refl rfl) 2 k 2 w) rfl
      · rw [hN']; exact eH_rs (eH_both (eH_rs (eH_mono fX rfl) rfl) 1302 0 k w) rfl
    rw [← hN'] at fR ⊢
    rw [← hM'] at fC ⊢
    have Y := say_x (MC' := M') (MR' := N') (q := r) i5 hk hm hspk q3 (by omega) fC (by rw [hM']; rfl) fR ⟨by rw [g14, if_pos rfl], fun c hc => by rw [g14, if_neg hc]⟩ ⟨fun s hs => by
      rw [gN 1315 _ (by decide) (by decide) (by decide), x3 s hs, b2 1315 0 _ rfl, fa 1315 0 _ rfl], fun j hj => by
      rw [gN 1315 _ (by decide) (by decide) (by decide), x4 j hj, b2 1315 0 _ rfl, fa 1315 0 _ rfl]⟩ ⟨fun s hs => by
      rw [gN 1325 _ (by decide) (by decide) (by decide), x2 1325 0 _ rfl, b3 s hs, fa 1315 0 _ rfl], fun j hj => by
      rw [gN 1325 _ (by decide) (by decide) (by decide), x2 1325 0 _ rfl, b4 j hj, fa 1325 0 _ rfl]⟩
    refine ih (M', N') ⟨eF_trans i1 fC, by rw [hM']; exact i2, eH_trans i3 fR, G1, eG3y_sp Y (fun b _ => ?_), fun j hj => ?_, fun j hj => ?_, fun j hj => ?_, fun j hj => ?_⟩
    · by_cases hbk : b = k
      · subst hbk; simp [ht]
      · rw [hdec b hbk]; simp [hbk]
    · dsimp only
      rw [hM', hN', cg_cs, rg_rs]
      by_cases hj7 : j = 7
      · rw [if_pos ⟨rfl, rfl, hj7⟩, if_pos ⟨rfl, rfl, hj7⟩]
      · rw [if_neg (fun h => hj7 h.2.2), if_neg (fun h => hj7 h.2.2), cg_cs, if_neg (by omega), cg_cs, if_neg (by omega), rg_rs, if_neg (by omega), rg_rs, if_neg (by omega), fX 1319 0 j rfl]
        exact i6 j hj
    · dsimp only
      rw [hM', cg_cs, if_neg (by omega), cg_cs, if_neg (by omega), cg_cs, if_pos ⟨rfl, rfl, rfl⟩, hv9, eb_or, eb_shl (by omega), i7 j hj]
      by_cases hbk : j = k
      · subst hbk; simp [ht]
      · rw [hdec j hbk]; simp [hbk]
    · dsimp only
      rw [gN 1324 _ (by decide) (by decide) (by decide), x2 1324 0 j rfl, b2 1324 0 j rfl, hNa, rg_rs]
      by_cases hbk : j = k
      · rw [if_pos ⟨rfl, rfl, hbk⟩, hbk, ht]; rfl
      · rw [if_neg (fun h => hbk h.2.2)]; exact i8 j (by omega)
    · dsimp only
      rw [g14, if_neg (by omega)]; exact i9 j (by omega)
  · refine eG3y_sp (eG3y_fr g3 (K := [10009]) (K' := []) (by repeat (first | exact eF_refl | refine eF_cs ?_ rfl)) eH_refl rfl rfl rfl rfl) (fun b _ => ?_)
    simp
  · dsimp only
    rw [cg_cs, if_pos ⟨rfl, rfl, rfl⟩, eb_0]; simp
