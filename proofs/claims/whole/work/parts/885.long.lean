/-! the trees by which the first box lives longest -/
theorem cg_ccopy (M : cM) (k1 k2 k i s : Nat) : cg (ccopy M k1 k2) k i s = if k = k2 ∧ i = 0 ∧ s < 10 then cg M k1 0 s else cg M k i s := by
  have h : cg (ccopy M k1 k2) k i s = if k = k2 ∧ i = 0 ∧ s < 10 then cg M k1 0 s else cg M k i s := rfl
  exact h.trans rfl
/-- the reference's best tree, written anew if this one is better -/
theorem copy209_e {m : Nat} {v : Int32} {MR N : rM} {P : Option (Int32 × rM) → Prop} (k196 : Int32 → rM → Option (Int32 × rM)) (hm : m ≤ 10) (h0 : rg MR 12 0 0 = nI m) (hrd : qRd m MR N) (hk : ∀ N', eH [1348] N N' → (rg N 12 0 49 < v → ∀ b, b < m → rg N' 1348 0 b = rg N 1347 0 b) → (¬ rg N 12 0 49 < v → ∀ b, rg N' 1348 0 b = rg N 1348 0 b) → P (m12_findLongest_266 k196 (if rg N 12 0 49 < v then v else rg N 12 0 49) N')) : P (m12_findLongest_209 k196 zfu v 0 N) := by
  have le : ∀ N', eH [1348] N N' → (v ≤ rg N' 12 0 49) = (¬ rg N 12 0 49 < v) := fun N' h => by rw [h 12 0 49 rfl]; exact propext Int32.not_lt.symm
  refine eloop (σ := rM) (fun f k N' => P (m12_findLongest_209 k196 f v (nI k) N')) (fun k N' => eH [1348] N N' ∧ (rg N 12 0 49 < v → ∀ b, b < k → rg N' 1348 0 b = rg N 1347 0 b) ∧ (¬ rg N 12 0 49 < v → ∀ b, rg N' 1348 0 b = rg N 1348 0 b)) (m := m) (k0 := 0) (by omega) ?_ ?_ (zfu_gt (by omega)) ⟨eH_refl, fun _ b hb => absurd hb (by omega), fun _ _ => rfl⟩
  · rintro f N' ⟨i1, i2, i3⟩
    rw [m12_findLongest_209, i1 12 0 0 rfl, hrd.1 12 0 0 rfl, h0, if_pos (by rw [eI_le (by omega) (by omega)]; omega)]
    unfold m12_findLongest_247
    have := hk N' i1 i2 i3
    by_cases hv : rg N 12 0 49 < v
    · rw [if_neg (by rw [le N' i1]; exact fun h => h hv)]
      rw [if_pos hv] at this; exact this
    · rw [if_pos (by rw [le N' i1]; exact hv), i1 12 0 49 rfl]
      rw [if_neg hv] at this; exact this
  · rintro f k N' hk0 hkm ⟨i1, i2, i3⟩ ih
    have hk10 : k < 10 := by omega
    rw [m12_findLongest_209, i1 12 0 0 rfl, hrd.1 12 0 0 rfl, h0, if_neg (by rw [eI_le (by omega) (by omega)]; omega)]
    by_cases hv : rg N 12 0 49 < v
    · rw [if_neg (by rw [le N' i1]; exact fun h => h hv), ezin_nI hk10 (by decide), Bool.and_true, Bool.and_self, zgd_t, ex_nI (by omega), ep1]
      refine ih _ ⟨eH_rs i1 rfl, fun _ b hb => ?_, fun h => absurd hv h⟩
      rw [rg_rs]
      by_cases hbk : b = k
      · rw [if_pos ⟨rfl, rfl, hbk⟩, hbk]; exact i1 1347 0 k rfl
      · rw [if_neg (fun h => hbk h.2.2)]; exact i2 hv b (by omega)
    · rw [if_pos (by rw [le N' i1]; exact hv)]
      unfold m12_findLongest_247
      rw [if_pos (by rw [le N' i1]; exact hv), i1 12 0 49 rfl]
      have := hk N' i1 (fun h => absurd h hv) i3
      rw [if_neg hv] at this; exact this
theorem copy168_e {m : Nat} {MR N : rM} {P : Option (Int32 × rM) → Prop} (hm : m ≤ 10) (h0 : rg N 12 0 0 = nI m) (hk : ∀ N', eH [1348] N N' → P (m12_findLongest_196 zfu 1 N')) : P (m12_findLongest_168 zfu 0 N) := by
  refine eloop (σ := rM) (fun f k N' => P (m12_findLongest_168 f (nI k) N')) (fun k N' => eH [1348] N N') (m := m) (k0 := 0) (by omega) ?_ ?_ (zfu_gt (by omega)) eH_refl
  · intro f N' i1
    rw [m12_findLongest_168, i1 12 0 0 rfl, h0, if_pos (by rw [eI_le (by omega) (by omega)]; omega)]
    exact hk N' i1
  · intro f k N' hk0 hkm i1 ih
    rw [m12_findLongest_168, i1 12 0 0 rfl, h0, if_neg (by rw [eI_le (by omega) (by omega)]; omega), ezin_nI (show k < 10 by omega) (by decide), Bool.and_true, Bool.and_self, zgd_t, ex_nI (by omega), ep1]
    exact ih _ (eH_rs i1 rfl)
theorem ccopy_f (M : cM) : eF [606] M (ccopy M 605 606) ∧ (ccopy M 605 606).2 = M.2 := by
  refine ⟨fun k i s hk => ?_, rfl⟩
  rw [cg_ccopy, if_neg ?_]
  rintro ⟨rfl, -, -⟩
  have : zky 606 i s = 606 := by unfold zky; rw [if_neg (by omega), if_neg (by omega)]
  rw [this] at hk; cases hk
theorem qLs_pos {N : rM} {t m : Nat} {tr : Nat → Nat} {k : Nat} (h : ∃ b, b < k ∧ eLiv N b = true) : qLs N t m tr k ≠ 0 := by
  induction k with
  | zero => obtain ⟨b, hb, -⟩ := h; omega
  | succ k ih =>
    rw [qLs_s]
    by_cases hl : eLiv N k = true
    · rw [if_pos hl]; split <;> omega
    · rw [if_neg hl]
      obtain ⟨b, hb, hlb⟩ := h
      refine ih ⟨b, ?_, hlb⟩
      by_cases hbk : b = k
      · rw [hbk] at hlb; exact absurd hlb hl
      · omega
/-- what both say at the end -/
def qEnd (m : Nat) (MC : cM) (MR : rM) (o : Option (Int32 × cM)) (o' : Option (Int32 × rM)) : Prop := ∃ M' N' r, o = some (r, M') ∧ eF qK MC M' ∧ M'.2 = MC.2 ∧ eH qKR MR N' ∧ ((r = -4 ∧ o' = some (0, N')) ∨ (¬ r = -4 ∧ o' = some (1, N') ∧ rg N' 12 0 49 = r ∧ ∀ b, b < m → cg M' 606 0 b = rg N' 1348 0 b))
theorem long_cr {n m t : Nat} {MC : cM} {MR : rM} (hm : m ≤ 10) (g0 : eG0 m t MC MR) (g1 : eG1 m MC MR) (g5 : eG5 MC MR) : qEnd m MC MR (m5_findLongest MC) (m12_findLongest MR) := by
  have n10 : ((1 : Int32) = 0) = False := eq_false (by decide)
  obtain ⟨M1, a1, a2, a3, a4⟩ := fill606 (-1) MC
  obtain ⟨Na, b1, b2, b3⟩ := home_e2 (N := MR) hm g0.2.1
  have rda : qRd m MR Na := ⟨eH_mono b2 rfl, b3⟩
  have fM1 : eF qK MC M1 := eF_mono a2 rfl
  have G0 := eG0_fr g0 fM1 (eH_refl (K := [])) rfl rfl
  have G1 := eG1_fr g1 fM1 (eH_refl (K := [])) rfl rfl
  unfold m5_findLongest m12_findLongest
  rw [a1, zbv_s, living_c hm G0 G1, zbd_s, b1, zbv_s]
  have hliv : eSet m (eLiv MR) = 0 ↔ ∀ b, b < m → eLiv MR b = false := by rw [eSet_0 (by omega), eNum_z]
  have f5 : ∀ N, qRd m MR N → eH qKR MR N := fun N h => h.1
  by_cases hz : eSet m (eLiv MR) = 0
  · -- all are dead
    rw [if_pos hz]
    have hdead := hliv.mp hz
    have hq0 : ∀ d b, b < m → qHo m MR d b = 0 := by
      intro d
      induction d with
      | zero =>
        intro b hb
        rw [qHo_0, if_neg]
        rintro ⟨h1, h2⟩
        rw [hdead 0 (by omega)] at h2; cases h2
      | succ d ih =>
        intro b hb
        rw [qHo_s]; unfold qNx
        rw [if_neg (fun h => by rw [hdead b hb] at h; exact absurd h.2.1 (by decide))]
        exact ih b hb
    have hqF : ∀ b, b < m → qF m MR b 0 = 0 := fun b hb => qF_0.mpr (by rw [hq0 m b hb]; omega)
    have hpr : qPr m MR m ≤ 20000 := by
      have key : ∀ k, k ≤ m → qPr m MR k = 1 := by
        intro k
        induction k with
        | zero => intro _; rfl
        | succ k ih =>
          intro hk
          rw [qPr_s, ih (by omega), (qC_low (by rw [hq0 m k (by omega)]; omega)).1]
      rw [key m (Nat.le_refl m)]; omega
    refine pre_e (P := fun o => qEnd m MC MR (some (-1, M1)) o) hm g0 g1 g5 rda (fun N r1 r2 r3 => ?_)
    rw [if_pos hpr]
    obtain ⟨Nb, hNb⟩ : ∃ X, X = rs N 12 0 49 (-1) := ⟨_, rfl⟩
    rw [← hNb]
    have fb : eH [11249] N Nb := by rw [hNb]; exact (by repeat (first | exact eH_refl | refine eH_rs ?_ rfl | refine eH_rsl ?_))
    -- the first tree is the best for a start
    refine eloop (σ := rM) (fun f k N' => qEnd m MC MR (some (-1, M1)) (m12_findLongest_168 f (nI k) N')) (fun k N' => eH [1348] Nb N' ∧ ∀ b, b < k → rg N' 1348 0 b = -1) (m := m) (k0 := 0) (by omega) ?_ ?_ (zfu_gt (by omega)) ⟨eH_refl, fun b hb => absurd hb (by omega)⟩
    · rintro f N' ⟨i1, i2⟩
      have rdN : qRd m MR N' := ⟨eH_trans r1.1 (eH_trans (eH_mono fb rfl) (eH_mono i1 rfl)), fun b hb => by rw [i1 1346 0 b rfl, fb 1346 0 b rfl]; exact r1.2 b hb⟩
      have e0 : rg N' 12 0 0 = nI m := by rw [rdN.1 12 0 0 rfl, g0.2.1]
      have e49 : rg N' 12 0 49 = -1 := by rw [i1 12 0 49 rfl, hNb, rg_rs, if_pos ⟨rfl, rfl, rfl⟩]
      have e47 : ∀ b, b < m → rg N' 1347 0 b = -1 := fun b hb => by rw [i1 1347 0 b rfl, fb 1347 0 b rfl, r2 b hb, hqF b hb, eM_0]
      have hle : m12_leastLife N' = some (-1, N') := by
        unfold m12_leastLife
        refine eloop0 (fun f k => m12_leastLife_4 f (-1) (nI k) N' = some (-1, N')) (Nat.zero_le m) ?_ ?_ (zfu_gt (by omega))
        · intro f
          rw [m12_leastLife_4, e0, if_pos (by rw [eI_le (by omega) (by omega)]; omega)]
        · intro f k _ hk ih
          have hd : rg N' 1302 0 k ≤ 0 := by
            have := hdead k hk
            unfold eLiv at this
            rw [rdN.1 1302 0 k rfl]; simpa using this
          rw [m12_leastLife_4]
          simp only [e0, eI_le (show m < 2 ^ 31 by omega) (show k < 2 ^ 31 by omega), show (m ≤ k) = False from eq_false (by omega), ezin_nI (show k < 10 by omega) (show 10 < 2 ^ 31 by decide), ex_nI (show k < 2 ^ 31 by omega), hd, m12_leastLife_109, ep1, zbd_s, zbv_s, zgd_t, Bool.and_true, Bool.true_and, Bool.and_self, if_true, if_false, e_01, eq_self, Bool.false_eq_true]
          exact ih
      have hnx : ∀ N'', eH [1348] N' N'' → ∀ w, m12_hasNextTree (rs N'' 12 0 49 w) = some (0, rs N'' 12 0 49 w) := by
        intro N'' h w
        have z0 : rg (rs N'' 12 0 49 w) 12 0 0 = nI m := by rw [rg_rs, if_neg (by omega), h 12 0 0 rfl, e0]
        have z47 : ∀ b, b < m → rg (rs N'' 12 0 49 w) 1347 0 b = -1 := fun b hb => by rw [rg_rs, if_neg (by omega), h 1347 0 b rfl]; exact e47 b hb
        unfold m12_hasNextTree
        rw [z0]
        have key : ∀ i f, (i = 0 ∨ i < m) → i < f → m12_hasNextTree_7 f (nI i) (rs N'' 12 0 49 w) = some (0, rs N'' 12 0 49 w) := by
          intro i
          induction i with
          | zero =>
            intro f _ hf
            obtain ⟨f, rfl⟩ : ∃ f', f = f' + 1 := ⟨f - 1, by omega⟩
            rw [m12_hasNextTree_7, if_pos (by decide)]
          | succ i ih =>
            intro f hi hf
            obtain ⟨f, rfl⟩ : ∃ f', f = f' + 1 := ⟨f - 1, by omega⟩
            have hm1 : nI (i + 1) + (-1 : Int32) = nI i := by rw [← nI_sub1 i, Int32.sub_eq_add_neg]
            rw [m12_hasNextTree_7, if_neg (by rw [eI_pos (by omega)]; omega), ezin_nI (show i + 1 < 10 by omega) (by decide), Bool.and_true, zgd_t, ex_nI (by omega), z47 (i + 1) (by omega), if_pos rfl]
            unfold m12_hasNextTree_81
            rw [hm1]
            exact ih f (by omega) (by omega)
        by_cases hm0 : m = 0
        · subst hm0
          rw [zfu_eq, m12_hasNextTree_7, if_pos (by decide)]
        · obtain ⟨k, rfl⟩ : ∃ k, m = k + 1 := ⟨m - 1, by omega⟩
          rw [nI_sub1]
          exact key k zfu (by omega) (zfu_gt (by omega))
      rw [m12_findLongest_168, e0, if_pos (by rw [eI_le (by omega) (by omega)]; omega), zfu_eq, m12_findLongest_196, if_neg (by decide), hle, zbd_s]
      refine copy209_e (P := fun o => qEnd m MC MR (some (-1, M1)) o) (m12_findLongest_196 99999) hm g0.2.1 rdN (fun N'' k1 k2 k3 => ?_)
      unfold m12_findLongest_266
      have hnlt : ¬ rg N' 12 0 49 < -1 := by rw [e49]; decide
      rw [if_neg hnlt, e49, hnx N'' k1, zbd_s, show (99999 : Nat) = 99998 + 1 from rfl, m12_findLongest_196, if_pos rfl]
      refine ⟨M1, _, -1, rfl, fM1, a3, ?_, .inr ⟨by decide, rfl, ?_, fun b hb => ?_⟩⟩
      · exact eH_rs (eH_trans rdN.1 (eH_mono k1 rfl)) rfl
      · rw [rg_rs, if_pos ⟨rfl, rfl, rfl⟩]
      · rw [a4 b (by omega), rg_rs, if_neg (by omega), k3 hnlt b, i2 b hb]
    · rintro f k N' hk0 hk ⟨i1, i2⟩ ih
      have e0 : rg N' 12 0 0 = nI m := by rw [i1 12 0 0 rfl, fb 12 0 0 rfl, r1.1 12 0 0 rfl, g0.2.1]
      have e47 : rg N' 1347 0 k = -1 := by rw [i1 1347 0 k rfl, fb 1347 0 k rfl, r2 k hk, hqF k hk, eM_0]
      rw [m12_findLongest_168, e0, if_neg (by rw [eI_le (by omega) (by omega)]; omega), ezin_nI (show k < 10 by omega) (by decide), Bool.and_true, Bool.and_self, zgd_t, ex_nI (by omega), ep1, e47]
      refine ih _ ⟨eH_rs i1 rfl, fun b hb => ?_⟩
      rw [rg_rs]
      by_cases hbk : b = k
      · rw [if_pos ⟨rfl, rfl, hbk⟩]
      · rw [if_neg (fun h => hbk h.2.2)]; exact i2 b (by omega)
  · rw [if_neg hz]
    have hm1 : 0 < m := by
      rcases Nat.eq_zero_or_pos m with h | h
      · subst h; exact absurd rfl hz
      · exact h
    obtain ⟨M2, c1, c2, c3, c4⟩ := steps_c hm hm1 g0 g1 fM1 a3
    have fM2 : eF qK MC M2 := eF_trans fM1 (eF_mono c2 rfl)
    obtain ⟨M3, x, d1, d2, d3, d4, d5, d6⟩ := near_c hm hm1 g0 g1 fM2 (c3.trans a3) c4
    have fM3 : eF qK MC M3 := eF_trans fM2 (eF_mono d2 rfl)
    have pM3 : M3.2 = MC.2 := d3.trans (c3.trans a3)
    rw [c1, zbv_s, d1, zbd_s]
    have ex20 : (nI x ≤ (20000 : Int32)) = (x ≤ 20000) := by rw [show (20000 : Int32) = nI 20000 from rfl, eI_le (by omega) (by omega)]
    by_cases hx : x ≤ 20000
    · rw [if_pos (ex20.mpr hx)]
      have hpr := d6.mp hx
      have hex : ∃ b, b < m ∧ eLiv MR b = true := by
        have h1 : ¬ ∀ b, b < m → eLiv MR b = false := fun h => hz (hliv.mpr h)
        rw [Classical.not_forall] at h1
        obtain ⟨b, hb⟩ := h1
        rw [Classical.not_imp] at hb
        exact ⟨b, hb.1, by simpa using hb.2⟩
      refine lives_all (P := fun o => qEnd m MC MR o (m12_findLongest_8 zfu 1 0 Na)) hm g0 g1 g5 fM3 pM3 _ (fun b hb => (d4 b hb).2) (fun M l1 l2 l3 => ?_)
      refine pre_e (P := fun o => qEnd m MC MR (m5_findLongest_84 zfu (eSet m (eLiv MR)) (-1) 0 M) o) hm g0 g1 g5 rda (fun N r1 r2 r3 => ?_)
      rw [if_pos hpr]
      have fM : eF qK MC M := eF_trans fM3 (eF_mono l1 rfl)
      refine copy168_e (MR := MR) (P := fun o => qEnd m MC MR (m5_findLongest_84 zfu (eSet m (eLiv MR)) (-1) 0 M) o) hm (by rw [rg_rs, if_neg (by omega), r1.1 12 0 0 rfl, g0.2.1]) (fun N' k1 => ?_)
      have fN' : eH [1348, 11249] N N' := eH_trans (eH_rs eH_refl rfl) (eH_mono k1 rfl)
      rw [zfu_eq]
      refine eloop (σ := cM × rM × Int32) (fun f k s => qEnd m MC MR (m5_findLongest_84 (f + 1) (eSet m (eLiv MR)) s.2.2 (nI k) s.1) (m12_findLongest_196 (f + 1) 1 s.2.1)) (fun k s => (eF qK MC s.1 ∧ s.1.2 = MC.2 ∧ (∀ b, b < m → cg s.1 604 0 b = eSet m (qMl m MR b)) ∧ ∀ b c, b < m → c < 10 → cg s.1 602 0 (10 * b + c) = nI (eLf MR b t (qHp m MR b) c)) ∧ (qRd m MR s.2.1 ∧ ∀ b c, b < m → c < 10 → rg s.2.1 1350 0 (20 * b + 2 * c) = nI (eLf MR b t false c) ∧ rg s.2.1 1350 0 (20 * b + 2 * c + 1) = nI (eLf MR b t true c)) ∧ (∃ tr, qOk m MR tr ∧ qRk m MR tr m = k ∧ ∀ b, b < m → cg s.1 605 0 b = eM (tr b) ∧ rg s.2.1 1347 0 b = eM (tr b)) ∧ rg s.2.1 12 0 49 = s.2.2 ∧ (s.2.2 = -1 ∨ (0 ≤ s.2.2 ∧ ∀ b, b < m → cg s.1 606 0 b = rg s.2.1 1348 0 b))) (s := (M, N', -1)) (m := 20000) (k0 := 0) (by omega) ?_ ?_ (by omega) ⟨⟨fM, l2.trans pM3, fun b hb => by rw [l1 604 0 b rfl]; exact (d4 b hb).1, l3⟩, ⟨⟨eH_trans r1.1 (eH_mono fN' rfl), fun b hb => by rw [fN' 1346 0 b rfl]; exact r1.2 b hb⟩, fun b c hb hc => by rw [fN' 1350 0 _ rfl, fN' 1350 0 _ rfl]; exact r3 b c hb hc⟩, ⟨fun b => qF m MR b 0, ⟨?_, fun b hb => ⟨Iff.rfl, fun a ha => ?_⟩⟩, ?_, fun b hb => ⟨by rw [l1 605 0 b rfl]; exact (d4 b hb).2, by rw [fN' 1347 0 b rfl]; exact r2 b hb⟩⟩, ?_, .inl rfl⟩
      · rintro f ⟨M, N, best⟩ ⟨-, -, ⟨tr, h1, h2, -⟩, -⟩
        have := qRk_lt h1 m (Nat.le_refl m)
        omega
      · rintro f k ⟨M, N, best⟩ hk0 hk ⟨⟨i1, i2, i3, i4⟩, ⟨i5, i6⟩, ⟨tr, i7, i8, i9⟩, i10, i11⟩ ih
        dsimp only at i1 i2 i3 i4 i5 i6 i9 i10 i11 ⊢
        have e34 : cg M 3 0 4 = nI m := by rw [i1 3 0 4 rfl, g0.1]
        obtain ⟨M5, v1, v2, v3⟩ := least_c (t := t) (MC0 := MC) hm hm1 e34 i7 (fun b hb => (i9 b hb).1) i4
        have w1 := least_e (t := t) hm hm1 g0.2.1 i5 i7 (fun b hb => (i9 b hb).2) i6
        have hpos := qLs_pos (t := t) (m := m) (tr := tr) hex
        obtain ⟨V, hV⟩ : ∃ V, qLs MR t m tr m = V + 1 := ⟨qLs MR t m tr m - 1, by omega⟩
        have hVle := qLs_le MR t m tr m
        rw [hV, if_neg (by omega), Nat.add_sub_cancel] at v1
        rw [hV, eM_s] at w1
        have hV0 : (0 : Int32) ≤ nI V := by rw [show (0 : Int32) = nI 0 from rfl, eI_le (by omega) (by omega)]; omega
        have k20 : ¬ (20000 : Int32) ≤ nI k := by rw [show (20000 : Int32) = nI 20000 from rfl, eI_le (by omega) (by omega)]; omega
        -- behind the comparing
        have aft : ∀ M6 N6 best', eF [606, 607] M M6 → M6.2 = M.2 → eH [1348, 11249] N N6 → rg N6 12 0 49 = best' → 0 ≤ best' → (∀ b, b < m → cg M6 606 0 b = rg N6 1348 0 b) → qEnd m MC MR (m5_findLongest_122 (m5_findLongest_84 (f + 1)) (eSet m (eLiv MR)) best' (nI k) M6) (zbd (m12_hasNextTree N6) (fun r3 M3 => m12_findLongest_196 (f + 1) r3 M3)) := by
          intro M6 N6 best' j1 j2 j3 j4 j5 j6
          have rd6 : qRd m MR N6 := ⟨eH_trans i5.1 (eH_mono j3 rfl), fun b hb => by rw [j3 1346 0 b rfl]; exact i5.2 b hb⟩
          obtain ⟨r, M7, N7, n1, n2, n3, n4, n5, n6⟩ := next_cr (MR := MR) (M := M6) (N := N6) (tr := tr) hm hm1 g0.2.1 (by rw [j1 3 0 4 rfl, e34]) rd6 i7 (fun b hb => by rw [j1 604 0 b rfl]; exact i3 b hb) (fun b hb => by rw [j1 605 0 b rfl, j3 1347 0 b rfl]; exact i9 b hb)
          have F7 : eF qK MC M7 := eF_trans i1 (eF_trans (eF_mono j1 rfl) (eF_mono n3 rfl))
          have P7 : M7.2 = MC.2 := n4.trans (j2.trans i2)
          have H7 : eH qKR MR N7 := eH_trans rd6.1 (eH_mono n5 rfl)
          have e49 : rg N7 12 0 49 = best' := by rw [n5 12 0 49 rfl, j4]
          have e606 : ∀ b, b < m → cg M7 606 0 b = rg N7 1348 0 b := fun b hb => by rw [n3 606 0 b rfl, n5 1348 0 b rfl]; exact j6 b hb
          unfold m5_findLongest_122
          rw [n1, zbd_s, n2, zbd_s]
          rcases n6 with h | ⟨h, tr', h1, h2, h3⟩
          · rw [h, if_pos rfl, m12_findLongest_196, if_pos rfl]
            refine ⟨M7, N7, best', rfl, F7, P7, H7, .inr ⟨fun h => ?_, rfl, e49, e606⟩⟩
            rw [h] at j5; exact absurd j5 (by decide)
          · rw [h, if_neg (by decide), ep1]
            refine ih (M7, N7, best') ⟨⟨F7, P7, fun b hb => ?_, fun b c hb hc => ?_⟩, ⟨⟨H7, fun b hb => ?_⟩, fun b c hb hc => ?_⟩, ⟨tr', h1, by rw [h2, i8], h3⟩, e49, .inr ⟨j5, e606⟩⟩
            · dsimp only; rw [n3 604 0 b rfl, j1 604 0 b rfl]; exact i3 b hb
            · dsimp only; rw [n3 602 0 _ rfl, j1 602 0 _ rfl]; exact i4 b c hb hc
            · dsimp only; rw [n5 1346 0 b rfl]; exact rd6.2 b hb
            · dsimp only; rw [n5 1350 0 _ rfl, n5 1350 0 _ rfl, j3 1350 0 _ rfl, j3 1350 0 _ rfl]; exact i6 b c hb hc
        rw [m5_findLongest_84, m12_findLongest_196, if_neg k20, if_neg (by decide), v1, zbd_s, w1, zbd_s]
        by_cases hb : best < nI V
        · rw [if_neg (Int32.not_le.mpr hb)]
          refine copy209_e (P := fun o => qEnd m MC MR _ o) (m12_findLongest_196 (f + 1)) hm g0.2.1 i5 (fun N' k1 k2 k3 => ?_)
          rw [i10] at k2 k3 ⊢
          unfold m12_findLongest_266
          rw [if_pos hb]
          obtain ⟨c1, c2⟩ := ccopy_f M5
          refine aft _ _ (nI V) (eF_trans (eF_mono v2 rfl) (eF_mono c1 rfl)) (c2.trans v3) (eH_rs (eH_mono k1 rfl) rfl) (by rw [rg_rs, if_pos ⟨rfl, rfl, rfl⟩]) hV0 (fun b hbm => ?_)
          rw [cg_ccopy, if_pos ⟨rfl, rfl, by omega⟩, rg_rs, if_neg (by omega), k2 hb b hbm, v2 605 0 b rfl, (i9 b hbm).1, (i9 b hbm).2]
        · rw [if_pos (Int32.not_lt.mp hb)]
          refine copy209_e (P := fun o => qEnd m MC MR _ o) (m12_findLongest_196 (f + 1)) hm g0.2.1 i5 (fun N' k1 k2 k3 => ?_)
          rw [i10] at k2 k3 ⊢
          unfold m12_findLongest_266
          rw [if_neg hb]
          rcases i11 with h | ⟨h1, h2⟩
          · exfalso
            rw [h] at hb
            exact hb (by lia)
          · refine aft _ _ best (eF_mono v2 rfl) v3 (eH_rs (eH_mono k1 rfl) rfl) (by rw [rg_rs, if_pos ⟨rfl, rfl, rfl⟩]) h1 (fun b hbm => ?_)
            rw [v2 606 0 b rfl, rg_rs, if_neg (by omega), k3 hb b]; exact h2 b hbm
      · exact qF_0.mpr (by have := qHo_00 m MR m; omega)
      · obtain ⟨-, z1, z2, -⟩ := qF_ok (by omega) ha
        exact ⟨z1, z2⟩
      · have key : ∀ k, k ≤ m → qRk m MR (fun b => qF m MR b 0) k = 0 := by
          intro k
          induction k with
          | zero => intro _; rfl
          | succ k ihk =>
            intro hk
            have e1 : qIx m MR (fun b => qF m MR b 0) k = 0 := by
              unfold qIx
              refine eNum_z.mpr (fun j hj => ?_)
              dsimp only at hj
              cases hq : qF m MR k 0 with
              | zero => rw [hq] at hj; omega
              | succ a' =>
                rw [hq] at hj
                obtain ⟨-, -, -, z⟩ := qF_ok (by omega) hq
                exact z j (by omega) (by omega)
            rw [qRk_s, ihk (by omega), e1, Nat.zero_mul]
        exact key m (Nat.le_refl m)
      · dsimp only
        rw [k1 12 0 49 rfl, rg_rs, if_pos ⟨rfl, rfl, rfl⟩]
    · rw [if_neg (fun h => hx (ex20.mp h))]
      have hpr : ¬ qPr m MR m ≤ 20000 := fun h => hx (d6.mpr h)
      refine pre_e (P := fun o => qEnd m MC MR (some (-4, M3)) o) hm g0 g1 g5 rda (fun N r1 r2 r3 => ?_)
      rw [if_neg hpr]
      exact ⟨M3, N, -4, rfl, fM3, pM3, r1.1, .inl ⟨rfl, rfl⟩⟩
theorem o_longest {n : Nat} {MC : cM} {MR : rM} (h : eRel n MC MR) : eO n (m11_longest MC) (m12_longest MR) := by
  obtain ⟨m, t, hm, ht, g0, g1, g2, g3, g4, g5, g6, g7, g8, g9⟩ := h
  unfold m11_longest m12_longest
  obtain ⟨M', N', r, h1, h2, h3, h4, h5⟩ := long_cr (n := n) hm g0 g1 g5
  rw [h1, zbd_s]
  rcases h5 with ⟨h6, h7⟩ | ⟨h6, h7, h8, h9⟩
  · rw [h7, zbd_s, if_pos rfl, h6]
    exact eO_fin rfl (eRel_fr hm ht g0 g1 g2 g3 g4 g5 g6 g7 g8 g9 h2 h4 h3 rfl rfl)
  · rw [h7, zbd_s, if_neg (by decide)]
    exact eO_fin h8.symm (eRel_fr hm ht g0 g1 g2 g3 g4 g5 g6 g7 g8 g9 h2 h4 h3 rfl rfl)
theorem o_best {n : Nat} {MC : cM} {MR : rM} (h : eRel n MC MR) (x1 : Int32) : eO n (m11_best x1 MC) (m12_best x1 MR) := by
  obtain ⟨m, t, hm, ht, g0, g1, g2, g3, g4, g5, g6, g7, g8, g9⟩ := h
  have n10 : ((1 : Int32) = 0) = False := eq_false (by decide)
  unfold m11_best m12_best
  rcases e_bx x1 m hm with hb | ⟨b, hb, rfl⟩
  · simp only [kn_n g0.1 hb, ib_n g0.2.1 hm hb, zbd_s, zbv_s, zgd_t, Bool.and_true, Bool.true_and, Bool.and_self, if_true, if_false, e_01, eq_self, Bool.false_eq_true]
    exact eO_same ⟨m, t, hm, ht, g0, g1, g2, g3, g4, g5, g6, g7, g8, g9⟩
  have hb10 : b < 10 := by omega
  simp only [kn_y g0.1 hm hb, ib_y g0.2.1 hm hb, of_y hb10, blt_t hb10, ezin_nI hb10 (show 10 < 2 ^ 31 by decide), ex_nI (show b < 2 ^ 31 by omega), zbd_s, zbv_s, zgd_t, Bool.and_true, Bool.true_and, Bool.and_self, if_true, if_false, e_01, eq_self, Bool.false_eq_true]
  obtain ⟨M', N', r, h1, h2, h3, h4, h5⟩ := long_cr (n := n) hm g0 g1 g5
  rw [h1, zbd_s]
  rcases h5 with ⟨h6, h7⟩ | ⟨h6, h7, h8, h9⟩
  · rw [h7, zbd_s, if_pos rfl, if_pos h6]
    exact eO_fin rfl (eRel_fr hm ht g0 g1 g2 g3 g4 g5 g6 g7 g8 g9 h2 h4 h3 rfl rfl)
  · rw [h7, zbd_s, if_neg h6, if_neg (by decide)]
    unfold m5_parentInLongest
    simp only [lt0_n (show b < 2 ^ 31 by omega), show ((10 : Int32) ≤ nI b) = False from eq_false (by rw [show (10 : Int32) = nI 10 from rfl, eI_le (by omega) (by omega)]; omega), ezin_nI (show b < 10 by omega) (show 10 < 2 ^ 31 by decide), ex_nI (show b < 2 ^ 31 by omega), zbd_s, zbv_s, zgd_t, Bool.and_true, Bool.true_and, Bool.and_self, if_true, if_false, e_01, eq_self, Bool.false_eq_true]
    exact eO_fin (h9 b hb) (eRel_fr hm ht g0 g1 g2 g3 g4 g5 g6 g7 g8 g9 h2 h4 h3 rfl rfl)
