/-! the trees by which the first box lives longest -/
theorem cg_ccopy (M : cM) (k1 k2 k i s : Nat) : cg (ccopy M k1 k2) k i s = if k = k2 ∧ i = 0 ∧ s < 10 then cg M k1 0 s else cg M k i s := by
  have h : cg (ccopy M k1 k2) k i s = if k = k2 ∧ i = 0 ∧ s < 10 then cg M k1 0 s else cg M k i s := rfl
  exact h.trans rfl
/-- the reference's best tree, written anew if this one is better -/
theorem copy209_e {m : Nat} {v : Int32} {MR N : rM} {P : Option (Int32 × rM) → Prop} (k196 : Int32 → rM → Option (Int32 × rM)) (hm : m ≤ 10) (h0 : rg MR 12 0 0 = nI m) (hrd : qRd m MR N) (hk : ∀ N', eH [1348] N N' → (rg N 12 0 49 < v → ∀ b, b < m → rg N' 1348 0 b = rg N 1347 0 b) → (¬ rg N 12 0 49 < v → ∀ b, rg N' 1348 0 b = rg N 1348 0 b) → P (m12_findLongest_266 k196 (if rg N 12 0 49 < v then v else rg N 12 0 49) N')) : P (m12_findLongest_209 k196 zfu v 0 N) := by
  have le : ∀ N', eH [1348] N N' → (v ≤ rg N' 12 0 49) = (¬ rg N 12 0 49 < v) := fun N' h => by rw [h 12 0 49 rfl]; exact propext Int32.not_lt.symm
  refine eloop (σ := rM) (fun f k N' => P (m12_findLongest_209 k196 f v (nI k) N')) (fun k N' => eH [1348] N N' ∧ (rg N 12 0 49 < v → ∀ b, b < k → rg N' 1348 0 b = rg N 1347 0 b) ∧ (¬ rg N 12 0 49 < v → ∀ b, rg N' 1348 0 b = rg N 1348 0 b)) (m := m) (k0 := 0) (by omega) ?_ ?_ (zfu_gt (by omega)) ⟨eH_refl, fun _ b hb => absurd hb (by omega), fun _ _ => rfl⟩
  · rintro f N' ⟨i1, i2, i3⟩
    rw [m12_findLongest_209, i1 12 0 0 rfl, hrd.1 12 0 0 rfl, h0, if_pos (by rw [eI_le (by omega) (by omega)]; omega)]
    unfold m12_findLongest_247
    have := hk N' i1 i2 i3
    by_cases hv : rg N 12 0 49 < v
    · rw [if_neg (by rw [le N' i1]; exact fun h => h hv)]
      rw [if_pos hv] at this; exact this
    · rw [if_pos (by rw [le N' i1]; exact hv), i1 12 0 49 rfl]
      rw [if_neg hv] at this; exact this
  · rintro f k N' hk0 hkm ⟨i1, i2, i3⟩ ih
    have hk10 : k < 10 := by omega
    rw [m12_findLongest_209, i1 12 0 0 rfl, hrd.1 12 0 0 rfl, h0, if_neg (by rw [eI_le (by omega) (by omega)]; omega)]
    by_cases hv : rg N 12 0 49 < v
    · rw [if_neg (by rw [le N' i1]; exact fun h => h hv), ezin_nI hk10 (by decide), Bool.and_true, Bool.and_self, zgd_t, ex_nI (by omega), ep1]
      refine ih _ ⟨eH_rs i1 rfl, fun _ b hb => ?_, fun h => absurd hv h⟩
      rw [rg_rs]
      by_cases hbk : b = k
      · rw [if_pos ⟨rfl, rfl, hbk⟩, hbk]; exact i1 1347 0 k rfl
      · rw [if_neg (fun h => hbk h.2.2)]; exact i2 hv b (by omega)
    · rw [if_pos (by rw [le N' i1]; exact hv)]
      unfold m12_findLongest_247
      rw [if_pos (by rw [le N' i1]; exact hv), i1 12 0 49 rfl]
      have := hk N' i1 (fun h => absurd h hv) i3
      rw [if_neg hv] at this; exact this
/-- what both say at the end -/
def qEnd (m : Nat) (MC : cM) (MR : rM) (o : Option (Int32 × cM)) (o' : Option (Int32 × rM)) : Prop := ∃ M' N' r, o = some (r, M') ∧ eF qK MC M' ∧ M'.2 = MC.2 ∧ eH qKR MR N' ∧ ((r = -4 ∧ o' = some (0, N')) ∨ (¬ r = -4 ∧ o' = some (1, N') ∧ rg N' 12 0 49 = r ∧ ∀ b, b < m → cg M' 606 0 b = rg N' 1348 0 b))
theorem long_cr {n m t : Nat} {MC : cM} {MR : rM} (hm : m ≤ 10) (g0 : eG0 m t MC MR) (g1 : eG1 m MC MR) (g5 : eG5 MC MR) : qEnd m MC MR (m5_findLongest MC) (m12_findLongest MR) := by
  have n10 : ((1 : Int32) = 0) = False := eq_false (by decide)
  obtain ⟨M1, a1, a2, a3, a4⟩ := fill606 (-1) MC
  obtain ⟨Na, b1, b2, b3⟩ := home_e2 (N := MR) hm g0.2.1
  have rda : qRd m MR Na := ⟨eH_mono b2 rfl, b3⟩
  have fM1 : eF qK MC M1 := eF_mono a2 rfl
  have G0 := eG0_fr g0 fM1 (eH_refl (K := [])) rfl rfl
  have G1 := eG1_fr g1 fM1 (eH_refl (K := [])) rfl rfl
  unfold m5_findLongest m12_findLongest
  rw [a1, zbv_s, living_c hm G0 G1, zbd_s, b1, zbv_s]
  have hliv : eSet m (eLiv MR) = 0 ↔ ∀ b, b < m → eLiv MR b = false := by rw [eSet_0 (by omega), eNum_z]
  have f5 : ∀ N, qRd m MR N → eH qKR MR N := fun N h => h.1
  by_cases hz : eSet m (eLiv MR) = 0
  · -- all are dead
    rw [if_pos hz]
    have hdead := hliv.mp hz
    have hq0 : ∀ d b, b < m → qHo m MR d b = 0 := by
      intro d
      induction d with
      | zero =>
        intro b hb
        rw [qHo_0, if_neg]
        rintro ⟨h1, h2⟩
        rw [hdead 0 (by omega)] at h2; cases h2
      | succ d ih =>
        intro b hb
        rw [qHo_s]; unfold qNx
        rw [if_neg (fun h => by rw [hdead b hb] at h; exact absurd h.2.1 (by decide))]
        exact ih b hb
    have hqF : ∀ b, b < m → qF m MR b 0 = 0 := fun b hb => qF_0.mpr (by rw [hq0 m b hb]; omega)
    have hpr : qPr m MR m ≤ 20000 := by
      have key : ∀ k, k ≤ m → qPr m MR k = 1 := by
        intro k
        induction k with
        | zero => intro _; rfl
        | succ k ih =>
          intro hk
          rw [qPr_s, ih (by omega), (qC_low (by rw [hq0 m k (by omega)]; omega)).1]
      rw [key m (Nat.le_refl m)]; omega
    refine pre_e (P := fun o => qEnd m MC MR (some (-1, M1)) o) hm g0 g1 g5 rda (fun N r1 r2 r3 => ?_)
    rw [if_pos hpr]
    obtain ⟨Nb, hNb⟩ : ∃ X, X = rs N 12 0 49 (-1) := ⟨_, rfl⟩
    rw [← hNb]
    have fb : eH [11249] N Nb := by rw [hNb]; exact (by repeat (first | exact eH_refl | refine eH_rs ?_ rfl | refine eH_rsl ?_))
    -- the first tree is the best for a start
    refine eloop (σ := rM) (fun f k N' => qEnd m MC MR (some (-1, M1)) (m12_findLongest_168 f (nI k) N')) (fun k N' => eH [1348] Nb N' ∧ ∀ b, b < k → rg N' 1348 0 b = -1) (m := m) (k0 := 0) (by omega) ?_ ?_ (zfu_gt (by omega)) ⟨eH_refl, fun b hb => absurd hb (by omega)⟩
    · rintro f N' ⟨i1, i2⟩
      have rdN : qRd m MR N' := ⟨eH_trans r1.1 (eH_trans (eH_mono fb rfl) (eH_mono i1 rfl)), fun b hb => by rw [i1 1346 0 b rfl, fb 1346 0 b rfl]; exact r1.2 b hb⟩
      have e0 : rg N' 12 0 0 = nI m := by rw [rdN.1 12 0 0 rfl, g0.2.1]
      have e49 : rg N' 12 0 49 = -1 := by rw [i1 12 0 49 rfl, hNb, rg_rs, if_pos ⟨rfl, rfl, rfl⟩]
      have e47 : ∀ b, b < m → rg N' 1347 0 b = -1 := fun b hb => by rw [i1 1347 0 b rfl, fb 1347 0 b rfl, r2 b hb, hqF b hb, eM_0]
      have hle : m12_leastLife N' = some (-1, N') := by
        unfold m12_leastLife
        refine eloop0 (fun f k => m12_leastLife_4 f (-1) (nI k) N' = some (-1, N')) (Nat.zero_le m) ?_ ?_ (zfu_gt (by omega))
        · intro f
          rw [m12_leastLife_4, e0, if_pos (by rw [eI_le (by omega) (by omega)]; omega)]
        · intro f k _ hk ih
          have hd : rg N' 1302 0 k ≤ 0 := by
            have := hdead k hk
            unfold eLiv at this
            rw [rdN.1 1302 0 k rfl]; simpa using this
          rw [m12_leastLife_4]
          simp only [e0, eI_le (show m < 2 ^ 31 by omega) (show k < 2 ^ 31 by omega), show (m ≤ k) = False from eq_false (by omega), ezin_nI (show k < 10 by omega) (show 10 < 2 ^ 31 by decide), ex_nI (show k < 2 ^ 31 by omega), hd, m12_leastLife_109, ep1, zbd_s, zbv_s, zgd_t, Bool.and_true, Bool.true_and, Bool.and_self, if_true, if_false, e_01, eq_self, Bool.false_eq_true]
          exact ih
      have hnx : ∀ N'', eH [1348] N' N'' → ∀ w, m12_hasNextTree (rs N'' 12 0 49 w) = some (0, rs N'' 12 0 49 w) := by
        intro N'' h w
        have z0 : rg (rs N'' 12 0 49 w) 12 0 0 = nI m := by rw [rg_rs, if_neg (by omega), h 12 0 0 rfl, e0]
        have z47 : ∀ b, b < m → rg (rs N'' 12 0 49 w) 1347 0 b = -1 := fun b hb => by rw [rg_rs, if_neg (by omega), h 1347 0 b rfl]; exact e47 b hb
        unfold m12_hasNextTree
        rw [z0]
        have key : ∀ i f, (i = 0 ∨ i < m) → i < f → m12_hasNextTree_7 f (nI i) (rs N'' 12 0 49 w) = some (0, rs N'' 12 0 49 w) := by
          intro i
          induction i with
          | zero =>
            intro f _ hf
            obtain ⟨f, rfl⟩ : ∃ f', f = f' + 1 := ⟨f - 1, by omega⟩
            rw [m12_hasNextTree_7, if_pos (by decide)]
          | succ i ih =>
            intro f hi hf
            obtain ⟨f, rfl⟩ : ∃ f', f = f' + 1 := ⟨f - 1, by omega⟩
            have hm1 : nI (i + 1) + (-1 : Int32) = nI i := by rw [← nI_sub1 i, Int32.sub_eq_add_neg]
            rw [m12_hasNextTree_7, if_neg (by rw [eI_pos (by omega)]; omega), ezin_nI (show i + 1 < 10 by omega) (by decide), Bool.and_true, zgd_t, ex_nI (by omega), z47 (i + 1) (by omega), if_pos rfl]
            unfold m12_hasNextTree_81
            rw [hm1]
            exact ih f (by omega) (by omega)
        by_cases hm0 : m = 0
        · subst hm0
          rw [zfu_eq, m12_hasNextTree_7, if_pos (by decide)]
        · obtain ⟨k, rfl⟩ : ∃ k, m = k + 1 := ⟨m - 1, by omega⟩
          rw [nI_sub1]
          exact key k zfu (by omega) (zfu_gt (by omega))
      rw [m12_findLongest_168, e0, if_pos (by rw [eI_le (by omega) (by omega)]; omega), zfu_eq, m12_findLongest_196, if_neg (by decide), hle, zbd_s, ← zfu_eq]
      refine copy209_e (P := fun o => qEnd m MC MR (some (-1, M1)) o) (m12_findLongest_196 99999) hm g0.2.1 rdN (fun N'' k1 k2 k3 => ?_)
      unfold m12_findLongest_266
      have hnlt : ¬ rg N' 12 0 49 < -1 := by rw [e49]; decide
      rw [if_neg hnlt, e49, hnx N'' k1, zbd_s, show (99999 : Nat) = 99998 + 1 from rfl, m12_findLongest_196, if_pos rfl]
      refine ⟨M1, _, -1, rfl, fM1, a3, ?_, .inr ⟨by decide, rfl, ?_, fun b hb => ?_⟩⟩
      · exact eH_rs (eH_trans rdN.1 (eH_mono k1 rfl)) rfl
      · rw [rg_rs, if_pos ⟨rfl, rfl, rfl⟩]
      · rw [a4 b (by omega), rg_rs, if_neg (by omega), k3 hnlt b, i2 b hb]
    · rintro f k N' hk0 hk ⟨i1, i2⟩ ih
      have e0 : rg N' 12 0 0 = nI m := by rw [i1 12 0 0 rfl, fb 12 0 0 rfl, r1.1 12 0 0 rfl, g0.2.1]
      have e47 : rg N' 1347 0 k = -1 := by rw [i1 1347 0 k rfl, fb 1347 0 k rfl, r2 k hk, hqF k hk, eM_0]
      rw [m12_findLongest_168, e0, if_neg (by rw [eI_le (by omega) (by omega)]; omega), ezin_nI (show k < 10 by omega) (by decide), Bool.and_true, Bool.and_self, zgd_t, ex_nI (by omega), ep1, e47]
      refine ih _ ⟨eH_rs i1 rfl, fun b hb => ?_⟩
      rw [rg_rs]
      by_cases hbk : b = k
      · rw [if_pos ⟨rfl, rfl, hbk⟩]
      · rw [if_neg (fun h => hbk h.2.2)]; exact i2 b (by omega)
  · rw [if_neg hz]
    have hm1 : 0 < m := by
      rcases Nat.eq_zero_or_pos m with h | h
      · subst h; exact absurd rfl hz
      · exact h
    obtain ⟨M2, c1, c2, c3, c4⟩ := steps_c hm hm1 g0 g1 fM1 a3
    have fM2 : eF qK MC M2 := eF_trans fM1 (eF_mono c2 rfl)
    obtain ⟨M3, x, d1, d2, d3, d4, d5, d6⟩ := near_c hm hm1 g0 g1 fM2 (c3.trans a3) c4
    have fM3 : eF qK MC M3 := eF_trans fM2 (eF_mono d2 rfl)
    have pM3 : M3.2 = MC.2 := d3.trans (c3.trans a3)
    rw [c1, zbv_s, d1, zbd_s]
    have ex20 : (nI x ≤ (20000 : Int32)) = (x ≤ 20000) := by rw [show (20000 : Int32) = nI 20000 from rfl, eI_le (by omega) (by omega)]
    by_cases hx : x ≤ 20000
    · rw [if_pos (ex20.mpr hx)]
      have hpr := d6.mp hx
      sorry
    · rw [if_neg (fun h => hx (ex20.mp h))]
      have hpr : ¬ qPr m MR m ≤ 20000 := fun h => hx (d6.mpr h)
      refine pre_e (P := fun o => qEnd m MC MR (some (-4, M3)) o) hm g0 g1 g5 rda (fun N r1 r2 r3 => ?_)
      rw [if_neg hpr]
      exact ⟨M3, N, -4, rfl, fM3, pM3, r1.1, .inl ⟨rfl, rfl⟩⟩
