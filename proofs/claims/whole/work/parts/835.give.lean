/-! a word or a sum given to the parent -/
def eKG : List Nat := [900, 10802, 10900, 10901, 10902, 10903, 10904, 103, 104, 10005]
def eKG' : List Nat := [1314, 1315, 1316, 1319, 1321, 11220]
theorem tly_x {M : cM} {N : rM} {c : Nat} (h : eTly M N) (hc : c < 8) : eTly (cs M 103 0 c (cg M 103 0 c + 1)) (rs N 1319 0 c (rg N 1319 0 c + 1)) := by
  intro j hj
  rw [cg_cs, rg_rs]
  by_cases hjc : j = c
  · rw [if_pos ⟨rfl, rfl, hjc⟩, if_pos ⟨rfl, rfl, hjc⟩, h c hc]
  · rw [if_neg (fun h => hjc h.2.2), if_neg (fun h => hjc h.2.2)]; exact h j hj
theorem ty_fr {M M' : cM} {N N' : rM} (h : eTly M N) {K K' : List Nat} (hC : eF K M M') (hR : eH K' N N') (d : eDj K [103] = true) (d' : eDj K' [1319] = true) : eTly M' N' := by
  intro j hj
  rw [eF_at hC d 103 0 j rfl, eH_at hR d' 1319 0 j rfl]; exact h j hj
theorem kp_fr {M M' : cM} {N N' : rM} (h : eKp M N) {K K' : List Nat} (hC : eF K M M') (hR : eH K' N N') (d : eDj K [104, 10005] = true) (d' : eDj K' [1321, 11220] = true) : eKp M' N' := by
  unfold eKp at *
  simp only [eF_at hC d 0 0 5 rfl, fun j => eF_at hC d 104 0 j rfl, eH_at hR d' 12 0 20 rfl, fun j => eH_at hR d' 1321 0 j rfl]
  exact h
def eGiv (sp : Nat → Bool) (m k : Nat) (M : cM) (N : rM) (M' : cM) (N' : rM) : Prop := eF eKG M M' ∧ M'.2 = M.2 ∧ eH eKG' N N' ∧ eG3y sp m M' N' ∧ eMs M' ≤ eMs M + eM2 M k 0 ∧ eM2 M' k 0 = eM2 M k 0 ∧ eTly M' N' ∧ eKp M' N'
theorem fis_c {k q : Nat} {M : cM} (hk : k < 10) (h2 : cg M 8 k 2 = nI (q + 1)) (hq : q ≤ 3) : m8_firstIsSum k M = some (if cg M 900 k 0 = -1 then 1 else 0, M) := by
  unfold m8_firstIsSum
  simp only [blt_t hk, h2, eI_pos (show q + 1 < 2 ^ 31 by omega), show ¬ q + 1 = 0 by omega, show zin 0 4 = true from rfl, nx_0, zbd_s, zbv_s, zgd_t, Bool.and_true, Bool.true_and, Bool.and_self, if_true, if_false, e_01, eq_self, Bool.false_eq_true]
  split <;> rfl
theorem fw_c {k : Nat} {M : cM} (hk : k < 10) : m8_firstWord k M = some (cg M 900 k 0, M) := by
  unfold m8_firstWord
  simp only [blt_t hk, show zin 0 4 = true from rfl, nx_0, zbd_s, zbv_s, zgd_t, Bool.and_true, Bool.true_and, Bool.and_self, if_true, if_false, e_01, eq_self, Bool.false_eq_true]
theorem fs_c {k : Nat} {M : cM} (hk : k < 10) : m8_firstSum k M = some (cp M 901 k 0, M) := by
  unfold m8_firstSum
  simp only [blt_t hk, show zin 0 4 = true from rfl, nx_0, zbd_s, zbv_s, zgd_t, Bool.and_true, Bool.true_and, Bool.and_self, if_true, if_false, e_01, eq_self, Bool.false_eq_true]
/-- only a loss is counted -/
theorem loss_x {sp : Nat → Bool} {m k c : Nat} {M : cM} {N : rM} (h : eG3y sp m M N) (hty : eTly M N) (hkp : eKp M N) (hc : c < 8) : eGiv sp m k M N (cs M 103 0 c (cg M 103 0 c + 1)) (rs N 1319 0 c (rg N 1319 0 c + 1)) := by
  have fC : eF [103] M (cs M 103 0 c (cg M 103 0 c + 1)) := (by repeat (first | exact eF_refl | refine eF_cs ?_ rfl))
  have fR : eH [1319] N (rs N 1319 0 c (rg N 1319 0 c + 1)) := (by repeat (first | exact eH_refl | refine eH_rs ?_ rfl | refine eH_rsl ?_))
  refine ⟨eF_mono fC rfl, rfl, eH_mono fR rfl, eG3y_fr h fC fR rfl rfl rfl rfl, ?_, ?_, tly_x hty hc, kp_fr hkp fC fR rfl rfl⟩
  · rw [eMs_fr fC rfl rfl]; omega
  · unfold eM2
    rw [fC 900 k 0 rfl, cp_cs, fC 9 _ 2 rfl]
theorem give86_x {sp : Nat → Bool} {m p k : Nat} {M : cM} {N : rM} (h : eG3y sp m M N) (hp : p < m) (hk : k < m) (hm : m ≤ 10) (hsp : sp p = false) (hsk : sp k = true) (hty : eTly M N) (hkp : eKp M N) : ∃ M' N', m0_give_86 k p M = some M' ∧ m12_getWord_226 (nI p) (nI (6 * k)) N = some N' ∧ eGiv sp m k M N M' N' := by
  have n10 : ((1 : Int32) = 0) = False := eq_false (by decide)
  have h' := h
  obtain ⟨r1, r2, r3, r4, r5, r6, r7, r8⟩ := h'
  have hp10 : p < 10 := by omega
  have hk10 : k < 10 := by omega
  have hpk : p ≠ k := fun e => by rw [e, hsk] at hsp; cases hsp
  obtain ⟨q, q1, q2, q3, q4, q5⟩ := (r1 k hk10).2 hsk
  obtain ⟨r, p1, p2, p3, p4⟩ := (r1 p hp10).1 hsp
  have x4 : (nI r = (4 : Int32)) = (r = 4) := by rw [show (4 : Int32) = nI 4 from rfl, eI_inj (by omega) (by omega)]
  unfold m0_give_86 m12_getWord_226
  simp only [blt_t hp10, blt_t hk10, ezin_nI (show p < 10 by omega) (show 10 < 2 ^ 31 by decide), ex_nI (show p < 2 ^ 31 by omega), full_c hp10 p2 p1, p3, x4, fis_c hk10 q2 q1, fw_c hk10, fs_c hk10, show zin 4 8 = true from rfl, nx_k 4 (by omega), zbd_s, zbv_s, zgd_t, Bool.and_true, Bool.true_and, Bool.and_self, if_true, if_false, e_01, eq_self, Bool.false_eq_true]
  by_cases hr : r = 4
  · simp only [hr, n10, zbd_s, zbv_s, zgd_t, Bool.and_true, Bool.true_and, Bool.and_self, if_true, if_false, e_01, eq_self, Bool.false_eq_true]
    exact ⟨_, _, rfl, rfl, loss_x h hty hkp (by omega)⟩
  have hr4 : r < 4 := by omega
  obtain ⟨N', d1, d2, d3, d4, d5, d6⟩ := putOn_e (p := p) (q := r) (a := 6 * k) (MR := N) hp10 hr4 (by omega) p3
  have hj := ePt_lt r2 hp10 hr4
  have hj0 := ePt_lt r2 hk10 (show 0 < 4 by omega)
  have hne : cp M 901 k 0 ≠ cp M 901 p r := ePt_ne r2 hk10 (by omega) hp10 hr4 (by omega)
  simp only [hr, d1, zbd_s, zbv_s, zgd_t, Bool.and_true, Bool.true_and, Bool.and_self, if_true, if_false, e_01, eq_self, Bool.false_eq_true]
  -- what stands behind a push
  have fin : ∀ M', ePu p r (cp M 901 p r) M M' → eEnA 1315 (24 * p + 6 * r) p r M' N' → eSm (cp M 901 p r) M' → eM2 M' p r = eM2 M k 0 → eGiv sp m k M N M' N' := by
    intro M' hP hE hsm h2
    obtain ⟨Y, Ym⟩ := push_x h hp hm hsp hr4 p2 hP hE hsm (eH_mono d2 rfl) (fun c => d2 1317 0 c rfl) ⟨d3, d4⟩ d6
    refine ⟨eF_mono hP.1 rfl, hP.2.1, eH_mono d2 rfl, Y, ?_, ?_, ty_fr hty hP.1 d2 rfl rfl, kp_fr hkp hP.1 d2 rfl rfl⟩
    · rw [Ym, h2]; exact Nat.le_refl _
    · unfold eM2
      rw [hP.2.2.2.2.1 k 0 (fun e => hpk e.1.symm), show cp M' 901 k 0 = cp M 901 k 0 by unfold cp; rw [hP.2.1], hP.2.2.2.2.2 _ 2 hne]
  rcases q4 with ⟨w1, w2, w3⟩ | ⟨w1, w2, w3, w4⟩
  · obtain ⟨M', a1, a2, a3, a4⟩ := addWord_c (b := p) (q := r) (M := M) (cg M 900 k 0) hp10 hr4 p2 (cp M 901 p r)
    simp only [eNe1 w3, a1, zbd_s, zbv_s, zgd_t, Bool.and_true, Bool.true_and, Bool.and_self, if_true, if_false, e_01, eq_self, Bool.false_eq_true]
    refine ⟨M', N', rfl, rfl, fin M' a2 ?_ (eSm_eq (r8 _ (by omega)) (fun s _ => a4 _ s)) ?_⟩
    · exact eEnA_eq (K := 1325) (a := 6 * k) (b := k) (k := 0) (.inl ⟨w1, w2, w3⟩) a3 (fun e => absurd e (eNe1 w3)) d5
    · unfold eM2
      rw [a3, if_neg (eNe1 w3), if_neg (eNe1 w3)]
  · obtain ⟨M', a1, a2, a3, a4⟩ := addSum_c (b := p) (i := cp M 901 k 0) (q := r) (M := M) hp10 (by omega) hr4 p2 (by omega) hne
    have hcp : ∀ c l, cp M' 901 c l = cp M 901 c l := fun c l => by unfold cp; rw [a2.2.1]
    simp only [w2, n10, blt_t (show cp M 901 k 0 < 51 by omega), a1, zbd_s, zbv_s, zgd_t, Bool.and_true, Bool.true_and, Bool.and_self, if_true, if_false, e_01, eq_self, Bool.false_eq_true]
    refine ⟨M', N', rfl, rfl, fin M' a2 ?_ (eSm_cp (r8 _ (by omega)) a4) ?_⟩
    · exact eEnA_eq (K := 1325) (a := 6 * k) (b := k) (k := 0) (.inr ⟨w1, w2, w3, w4⟩) (by rw [a3, w2]) (fun _ s hs => by rw [hcp, a4 s hs]) d5
    · unfold eM2
      rw [a3, if_pos rfl, w2, if_pos rfl, hcp, a4 2 (by omega)]
theorem give_x {sp : Nat → Bool} {m p k : Nat} {M : cM} {N : rM} (h : eG3y sp m M N) (g1 : eG1 m M N) (hms : eMs M ≤ 10) (hp : p < m) (hk : k < m) (hm : m ≤ 10) (hsp : sp p = false) (hsk : sp k = true) (hty : eTly M N) (hkp : eKp M N) : ∃ M' N', m0_give k p M = some M' ∧ m12_getWord (nI p) (nI (6 * k)) N = some N' ∧ eGiv sp m k M N M' N' := by
  have n10 : ((1 : Int32) = 0) = False := eq_false (by decide)
  have h' := h
  obtain ⟨r1, r2, r3, r4, r5, r6, r7, r8⟩ := h'
  have hp10 : p < 10 := by omega
  have hk10 : k < 10 := by omega
  obtain ⟨q, q1, q2, q3, q4, q5⟩ := (r1 k hk10).2 hsk
  obtain ⟨M', N', x1, x2, x3⟩ := give86_x h hp hk hm hsp hsk hty hkp
  have hmass := mass_ge (M := M) (p := p) (k := k) (q := q) hp10 hk10 q2 q1
  have e20 : cg M 2 p 0 = nI p := (g1.1 p hp10).1
  have e21 : cg M 2 p 1 = rg N 1301 0 p := (g1.1 p hp10).2.1
  obtain ⟨M1, hM1⟩ : ∃ X, X = cs M 103 0 6 (cg M 103 0 6 + 1) := ⟨_, rfl⟩
  obtain ⟨N1, hN1⟩ : ∃ X, X = rs N 1319 0 6 (rg N 1319 0 6 + 1) := ⟨_, rfl⟩
  obtain ⟨l1, l2, l3, l4, l5, l6, l7, l8⟩ : eGiv sp m k M N M1 N1 := by rw [hM1, hN1]; exact loss_x h hty hkp (by omega)
  have f1 : eF [103] M M1 := by rw [hM1]; exact (by repeat (first | exact eF_refl | refine eF_cs ?_ rfl))
  have f1' : eH [1319] N N1 := by rw [hN1]; exact (by repeat (first | exact eH_refl | refine eH_rs ?_ rfl | refine eH_rsl ?_))
  have hcp1 : ∀ c l, cp M1 901 c l = cp M 901 c l := fun c l => by unfold cp; rw [l2]
  have hj0 := ePt_lt r2 hk10 (show 0 < 4 by omega)
  unfold m0_give m12_getWord m12_getWord_15
  simp only [blt_t hp10, blt_t hk10, ezin_nI (show 6 * k < 60 by omega) (show 60 < 2 ^ 31 by decide), ex_nI (show 6 * k < 2 ^ 31 by omega), e20, eI_0 (show p < 2 ^ 31 by omega), show zin 6 8 = true from rfl, nx_k 6 (by omega), fis_c hk10 q2 q1, ← hM1, ← hN1, fis_c (M := M1) hk10 (by rw [f1 8 k 2 rfl, q2]) q1, fw_c hk10, fs_c hk10, f1 900 k 0 rfl, hcp1, n10, zbd_s, zbv_s, zgd_t, Bool.and_true, Bool.true_and, Bool.and_self, if_true, if_false, e_01, eq_self, Bool.false_eq_true]
  rcases q4 with ⟨w1, w2, w3⟩ | ⟨w1, w2, w3, w4⟩
  · simp only [w1, eNe1 w3, show ((0 : Int32) = 1) = False from eq_false (by decide), zbd_s, zbv_s, zgd_t, Bool.and_true, Bool.true_and, Bool.and_self, if_true, if_false, e_01, eq_self, Bool.false_eq_true]
    by_cases hp0 : p = 0
    · simp only [hp0, zbd_s, zbv_s, zgd_t, Bool.and_true, Bool.true_and, Bool.and_self, if_true, if_false, e_01, eq_self, Bool.false_eq_true]
      obtain ⟨M2, N2, k1, k2, k3, k4, k5, k6⟩ := keep_cr (a := 6 * k) (M := M1) (N := N1) (by omega) l8
      rw [f1' 1325 0 _ rfl, ← w2] at k1
      simp only [k1, k2, zbd_s, zbv_s, zgd_t, Bool.and_true, Bool.true_and, Bool.and_self, if_true, if_false, e_01, eq_self, Bool.false_eq_true]
      refine ⟨M2, N2, rfl, rfl, eF_trans l1 (eF_mono k3 rfl), k4.trans l2, eH_trans l3 (eH_mono k5 rfl), eG3y_fr l4 k3 k5 k4 rfl rfl rfl, ?_, ?_, ty_fr l7 k3 k5 rfl rfl, k6⟩
      · rw [eMs_fr k3 k4 rfl]; exact l5
      · rw [← l6]
        unfold eM2
        rw [k3 900 k 0 rfl, show cp M2 901 k 0 = cp M1 901 k 0 by unfold cp; rw [k4], k3 9 _ 2 rfl]
    · simp only [hp0, zbd_s, zbv_s, zgd_t, Bool.and_true, Bool.true_and, Bool.and_self, if_true, if_false, e_01, eq_self, Bool.false_eq_true]
      exact ⟨M', N', x1, x2, x3⟩
  · simp only [w1, w2, n10, zbd_s, zbv_s, zgd_t, Bool.and_true, Bool.true_and, Bool.and_self, if_true, if_false, e_01, eq_self, Bool.false_eq_true]
    have src9 : ∀ s, cg M1 9 (cp M 901 k 0) s = cg M 9 (cp M 901 k 0) s := fun s => by rw [hM1, cg_cs, if_neg (by omega)]
    have hM2 : eM2 M k 0 = nx (cg M 9 (cp M 901 k 0) 2) := by unfold eM2; rw [if_pos w2]
    have hsp5 : ∀ s, s < 5 → rg N 1325 0 (6 * k + 1 + s) = cg M 9 (cp M 901 k 0) s := fun s hs => (w4 s hs).symm
    have a2 : nI (6 * k) + (2 : Int32) = nI (6 * k + 1 + 1) := by rw [show (2 : Int32) = nI 2 from rfl, eI_add]
    have a3 : nI (6 * k) + (3 : Int32) = nI (6 * k + 1 + 2) := by rw [show (3 : Int32) = nI 3 from rfl, eI_add]
    have a4 : nI (6 * k) + (4 : Int32) = nI (6 * k + 1 + 3) := by rw [show (4 : Int32) = nI 4 from rfl, eI_add]
    have a5 : nI (6 * k) + (5 : Int32) = nI (6 * k + 1 + 4) := by rw [show (5 : Int32) = nI 5 from rfl, eI_add]
    have z1 := hsp5 0 (by omega)
    rw [Nat.add_zero] at z1
    by_cases hp0 : p = 0
    · simp only [hp0, ep1, a2, a3, a4, a5, ezin_nI (show 6 * k + 1 < 60 by omega) (show 60 < 2 ^ 31 by decide), ex_nI (show 6 * k + 1 < 2 ^ 31 by omega), ezin_nI (show 6 * k + 1 + 1 < 60 by omega) (show 60 < 2 ^ 31 by decide), ex_nI (show 6 * k + 1 + 1 < 2 ^ 31 by omega), ezin_nI (show 6 * k + 1 + 2 < 60 by omega) (show 60 < 2 ^ 31 by decide), ex_nI (show 6 * k + 1 + 2 < 2 ^ 31 by omega), ezin_nI (show 6 * k + 1 + 3 < 60 by omega) (show 60 < 2 ^ 31 by decide), ex_nI (show 6 * k + 1 + 3 < 2 ^ 31 by omega), ezin_nI (show 6 * k + 1 + 4 < 60 by omega) (show 60 < 2 ^ 31 by decide), ex_nI (show 6 * k + 1 + 4 < 2 ^ 31 by omega), fun j => f1' 1325 0 j rfl, z1, hsp5 1 (by omega), hsp5 2 (by omega), hsp5 3 (by omega), hsp5 4 (by omega), zbd_s, zbv_s, zgd_t, Bool.and_true, Bool.true_and, Bool.and_self, if_true, if_false, e_01, eq_self, Bool.false_eq_true]
      obtain ⟨M2, N2, j1, j2, j3, j4, j5, j6, j7, j8⟩ := join_x (i := 50) (x := 10) (src := cp M 901 k 0) l4 hm (.inr ⟨rfl, rfl⟩) (by omega) (by rw [src9]; exact w3) (by
        rw [src9, f1 9 50 2 rfl, ← hM2]; omega) (fun b l hb hl => by
        have := ePt_lt l4.2.1 hb hl; omega)
      rw [src9, src9, src9, src9, src9] at j2
      rw [show (10 : Int32) = nI 10 from rfl]
      simp only [j1, j2, zbd_s, zbv_s, zgd_t, Bool.and_true, Bool.true_and, Bool.and_self, if_true, if_false, e_01, eq_self, Bool.false_eq_true]
      have hp2 : ∀ c l, cp M2 901 c l = cp M 901 c l := fun c l => by unfold cp; rw [j4, l2]
      refine ⟨M2, N2, rfl, rfl, eF_trans l1 (eF_mono j3 rfl), j4.trans l2, eH_trans l3 (eH_mono j5 rfl), j6, ?_, ?_, ty_fr l7 j3 j5 rfl rfl, kp_fr l8 j3 j5 rfl rfl⟩
      · have e1 : ∀ c, c < 10 → eM1 M2 c = eM1 M1 c := fun c hc => by
          unfold eM1; rw [j3 2 c 14 rfl, j7 c 2 (by omega)]
        have e3 : ∀ c, c < 10 → eM3 M2 c = eM3 M1 c := fun c hc => by
          obtain ⟨q', y1, y2⟩ := eRx_len l4 hc
          unfold eM3; rw [j3 8 c 2 rfl, y2, ex_nI (by omega)]
          refine eSig_congr (fun l hl => ?_)
          have hcl := ePt_lt r2 hc (show l < 4 by omega)
          unfold eM2; rw [j3 900 c l rfl, hp2, hcp1, j7 _ 2 (by omega)]
        have hM1M : eMs M1 = eMs M := by rw [hM1]; exact eMs_fr (K := [103]) (by repeat (first | exact eF_refl | refine eF_cs ?_ rfl)) rfl rfl
        rw [← hM1M]
        unfold eMs
        rw [eSig_congr e1, eSig_congr e3, j8, src9, hM2]; omega
      · unfold eM2
        rw [j3 900 k 0 rfl, f1 900 k 0 rfl, hp2, j7 _ 2 (by omega), src9]
    · simp only [hp0, ep1, a2, a3, a4, a5, ezin_nI (show p < 10 by omega) (show 10 < 2 ^ 31 by decide), ex_nI (show p < 2 ^ 31 by omega), ezin_nI (show 6 * k + 1 < 60 by omega) (show 60 < 2 ^ 31 by decide), ex_nI (show 6 * k + 1 < 2 ^ 31 by omega), ezin_nI (show 6 * k + 1 + 1 < 60 by omega) (show 60 < 2 ^ 31 by decide), ex_nI (show 6 * k + 1 + 1 < 2 ^ 31 by omega), ezin_nI (show 6 * k + 1 + 2 < 60 by omega) (show 60 < 2 ^ 31 by decide), ex_nI (show 6 * k + 1 + 2 < 2 ^ 31 by omega), ezin_nI (show 6 * k + 1 + 3 < 60 by omega) (show 60 < 2 ^ 31 by decide), ex_nI (show 6 * k + 1 + 3 < 2 ^ 31 by omega), ezin_nI (show 6 * k + 1 + 4 < 60 by omega) (show 60 < 2 ^ 31 by decide), ex_nI (show 6 * k + 1 + 4 < 2 ^ 31 by omega), z1, hsp5 1 (by omega), hsp5 2 (by omega), hsp5 3 (by omega), hsp5 4 (by omega), e21, (r6 p hp10).1, zbd_s, zbv_s, zgd_t, Bool.and_true, Bool.true_and, Bool.and_self, if_true, if_false, e_01, eq_self, Bool.false_eq_true]
      by_cases hbr : rg N 1301 0 p = 1
      · by_cases hs0 : rg N 1317 0 p = 0
        · have hM1p : eM1 M p = nx (cg M 9 p 2) := by unfold eM1; rw [if_pos (by rw [(r6 p hp10).1, hs0])]
          obtain ⟨M2, N2, j1, j2, j3, j4, j5, j6, j7, j8⟩ := join_x (i := p) (x := p) (src := cp M 901 k 0) h hm (.inl ⟨by omega, hp, rfl⟩) (by omega) w3 (by
            rw [← hM2, ← hM1p]; omega) (fun b l hb hl => by
            have := ePt_lt r2 hb hl; omega)
          simp only [hbr, hs0, blt_t (show p < 51 by omega), j1, j2, zbd_s, zbv_s, zgd_t, Bool.and_true, Bool.true_and, Bool.and_self, if_true, if_false, e_01, eq_self, Bool.false_eq_true]
          have hp2 : ∀ c l, cp M2 901 c l = cp M 901 c l := fun c l => by unfold cp; rw [j4]
          refine ⟨M2, N2, rfl, rfl, eF_mono j3 rfl, j4, eH_mono j5 rfl, j6, ?_, ?_, ty_fr hty j3 j5 rfl rfl, kp_fr hkp j3 j5 rfl rfl⟩
          · have e1 : eSig 10 (eM1 M2) + eM1 M p = eSig 10 (eM1 M) + eM1 M2 p := eSig_upd hp10 (fun c hc hcp => by
              unfold eM1; rw [j3 2 c 14 rfl, j7 c 2 hcp])
            have e1p : eM1 M2 p = eM1 M p + eM2 M k 0 := by
              rw [hM1p, hM2]; unfold eM1
              rw [j3 2 p 14 rfl, if_pos (by rw [(r6 p hp10).1, hs0]), j8]
            have e3 : ∀ c, c < 10 → eM3 M2 c = eM3 M c := fun c hc => by
              obtain ⟨q', y1, y2⟩ := eRx_len h hc
              unfold eM3; rw [j3 8 c 2 rfl, y2, ex_nI (by omega)]
              refine eSig_congr (fun l hl => ?_)
              have hcl := ePt_lt r2 hc (show l < 4 by omega)
              unfold eM2; rw [j3 900 c l rfl, hp2, j7 _ 2 (by omega)]
            unfold eMs
            rw [eSig_congr e3, j7 50 2 (by omega)]; omega
          · unfold eM2
            rw [j3 900 k 0 rfl, hp2, j7 _ 2 (by omega)]
        · simp only [hbr, hs0, zbd_s, zbv_s, zgd_t, Bool.and_true, Bool.true_and, Bool.and_self, if_true, if_false, e_01, eq_self, Bool.false_eq_true]
          exact ⟨M', N', x1, x2, x3⟩
      · simp only [hbr, zbd_s, zbv_s, zgd_t, Bool.and_true, Bool.true_and, Bool.and_self, if_true, if_false, e_01, eq_self, Bool.false_eq_true]
        exact ⟨M', N', x1, x2, x3⟩
