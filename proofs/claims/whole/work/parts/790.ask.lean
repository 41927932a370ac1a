/-- boxes before k have forgotten their sums -/
def eIn (k : Nat) (Q : Nat → Nat) (M0 M : cM) : Prop := eF eKF M0 M ∧ (∀ kk i s, ¬ kk = 901 → cp M kk i s = cp M0 kk i s) ∧ (∀ b, b < k → (∃ q', eFw b (Q b) q' M0 M) ∧ cg M 2 b 14 = 0 ∧ ∀ s, s < 5 → cg M 9 b s = 0) ∧ (∀ i, k ≤ i → cg M 8 i 2 = cg M0 8 i 2 ∧ cg M 2 i 14 = cg M0 2 i 14 ∧ (∀ j, cg M 900 i j = cg M0 900 i j) ∧ (∀ s, cg M 9 i s = cg M0 9 i s) ∧ ∀ s, cp M 901 i s = cp M0 901 i s) ∧ ∀ b, b < 10 → ePb b M
theorem eIn_step {k : Nat} {Q : Nat → Nat} {M0 M M' : cM} {q' : Nat} (hk : k < 10) (h : eIn k Q M0 M) (hf : eF eKF M M') (hg : eFg k (Q k) q' M M') : eIn (k + 1) Q M0 M' := by
  obtain ⟨i1, i2, i3, i4, i5⟩ := h
  obtain ⟨f1, f2, f3, f4, f5, f6, f7, f8, f9⟩ := hg
  refine ⟨eF_trans i1 hf, fun kk i s hkk => by rw [f2 kk i s (fun h => hkk h.1), i2 kk i s hkk], fun b hb => ?_, fun i hi => ?_, fun b hb => ?_⟩
  · by_cases hbk : b = k
    · subst hbk
      refine ⟨⟨q', f1, f6, f7, ?_⟩, f4, f5⟩
      rw [f8]
      exact eCmp_congr (fun j _ => (i4 b (Nat.le_refl b)).2.2.1 j)
    · obtain ⟨⟨q2, w1, w2, w3, w4⟩, a2, a3⟩ := i3 b (by omega)
      obtain ⟨g1, g2, g3, g4⟩ := f3 b hbk
      refine ⟨⟨q2, w1, by rw [g1, w2], fun j hj => by rw [g3]; exact w3 j hj, ?_⟩, by rw [g2, a2], fun s hs => by rw [g4, a3 s hs]⟩
      rw [← w4]
      exact eCmp_congr (fun j _ => g3 j)
  · obtain ⟨g1, g2, g3, g4⟩ := f3 i (by omega)
    obtain ⟨h1, h2, h3, h4, h5⟩ := i4 i (by omega)
    exact ⟨by rw [g1, h1], by rw [g2, h2], fun j => by rw [g3, h3], fun s => by rw [g4, h4], fun s => by rw [f2 901 i s (fun h => by omega), h5]⟩
  · by_cases hbk : b = k
    · subst hbk; exact f9
    · have := i5 b hb
      unfold ePb at *
      have hh : ∀ j, cp M' 901 b j = cp M 901 b j := fun j => f2 901 b j (fun h => hbk h.2)
      simp only [hh]
      exact this
theorem pose17_c {m : Nat} {Q : Nat → Nat} {M0 : cM} (hm : m ≤ 10) (h0 : cg M0 3 0 4 = nI m) (hQ : ∀ b, b < m → Q b ≤ 4 ∧ cg M0 8 b 2 = nI (Q b)) (hP : ∀ b, b < 10 → ePb b M0) : ∃ M', m0_pose_17 zfu 0 M0 = some M' ∧ eIn m Q M0 M' := by
  refine eloop (σ := cM) (fun f k M => ∃ M', m0_pose_17 f (nI k) M = some M' ∧ eIn m Q M0 M') (fun k M => eIn k Q M0 M) (m := m) (k0 := 0) (by omega) ?_ ?_ (zfu_gt (by omega)) ⟨eF_refl, fun _ _ _ _ => rfl, fun b hb => absurd hb (by omega), fun _ _ => ⟨rfl, rfl, fun _ => rfl, fun _ => rfl, fun _ => rfl⟩, hP⟩
  · rintro f M hI
    refine ⟨M, ?_, hI⟩
    rw [m0_pose_17, hI.1 3 0 4 rfl, h0, if_pos (by rw [eI_le (by omega) (by omega)]; omega)]
  · rintro f k M hk0 hk hI ih
    obtain ⟨M', q', a1, a2, a3⟩ := forget_c (MC := M) (b := k) (q := Q k) (by omega) (hQ k hk).1 (by rw [(hI.2.2.2.1 k (Nat.le_refl k)).1, (hQ k hk).2]) (hI.2.2.2.2 k (by omega))
    rw [m0_pose_17, hI.1 3 0 4 rfl, h0, if_neg (by rw [eI_le (by omega) (by omega)]; omega), of_y (show k < 10 by omega), zbd_s, blt_t (show k < 10 by omega), zgd_t, a1, zbd_s, ep1]
    exact ih M' (eIn_step (by omega) hI a2 a3)
theorem eMs_0 {M : cM} (h1 : ∀ b, b < 10 → cg M 9 b 2 = 0) (h3 : ∀ b, b < 10 → eM3 M b = 0) (h50 : cg M 9 50 2 = 0) : eMs M = 0 := by
  unfold eMs
  rw [eSig_0 (fun k hk => by unfold eM1; rw [h1 k hk]; split <;> rfl), eSig_0 h3, h50]; rfl
theorem eSm_0 {i : Nat} {M : cM} (h2 : cg M 9 i 2 = 0) (h3 : cg M 9 i 3 = 0) (h4 : cg M 9 i 4 = 0) : eSm i M := ⟨0, 0, by omega, by omega, h2, h3, fun _ => h4⟩
theorem o_ask {n : Nat} {MC : cM} {MR : rM} (h : eRel n MC MR) : eO n (m11_ask MC) (m12_ask MR) := by
  obtain ⟨m, t, hm, ht, g0, g1, g2, g3, g4, g5, g6, g7, g8, g9⟩ := h
  unfold m11_ask m12_ask
  rcases read_e g4 with ⟨s, MC', MR', hs, h1, h2, h3, h4⟩ | ⟨MC', MR', a, v, c, h1, h2, ⟨h4, hp, h5⟩, hd, ha1, ha4, hv1, hv60, k0, k36, k1, k37⟩
  · rw [h1, h2, zbd_s, zbd_s, if_pos rfl, if_neg (fun h => by
      have h2 : (0 : Int32) ≤ nI s := by rw [show (0 : Int32) = nI 0 from rfl, eI_le (by omega) (by omega)]; omega
      rw [h] at h2; exact absurd h2 (by decide))]
    exact eO_fin rfl (eRel_fr hm ht g0 g1 g2 g3 g4 g5 g6 g7 g8 g9 h4.1 h4.2.2 h4.2.1 rfl rfl)
  · have G3 := eG3_fr g3 h4 h5 (fun b k => by unfold cp; rw [hp]) rfl rfl
    have G0 := eG0_fr g0 h4 h5 rfl rfl
    rw [h1, h2, zbd_s, zbd_s, if_pos rfl, if_neg (by decide)]
    obtain ⟨d1, d2, d3, d4⟩ := hd
    obtain ⟨MC1, b1, b2, b3, b4, b5⟩ := copy7_c (MC := MC') d1 (fun k hk => by
      obtain ⟨c1, c2, c3⟩ := d4 k hk
      refine ⟨?_, ?_⟩
      · rcases c1 with ⟨-, h⟩ | ⟨-, h⟩; exact .inl h; exact .inr h
      · rcases c2 with ⟨-, h⟩ | ⟨-, h⟩; exact .inr h; exact .inl h)
    obtain ⟨MC2, e1, e2, e3, e4, e5⟩ := clear9_c (show 50 < 51 by omega) MC1
    have hp2 : MC2.2 = MC'.2 := by rw [e3, b3]
    have hcp : ∀ k i s, cp MC2 k i s = cp MC' k i s := fun k i s => by unfold cp; rw [hp2]
    have f12 : eF [10750, 10751, 10752, 20803, 20804, 20805, 10900, 10901, 10902, 10903, 10904] MC' MC2 := eF_trans (eF_mono b2 rfl) (eF_mono e2 rfl)
    obtain ⟨r1, r2, r3, r4, r5, r6, r7, r8, r9⟩ := G3
    have hQ : ∀ b, b < 10 → ∃ q, q ≤ 4 ∧ cg MC' 8 b 2 = nI q ∧ rg MR' 1314 0 b = nI q ∧ ∀ k, k < q → eEn b k MC' MR' := r1
    obtain ⟨Q, hQ'⟩ : ∃ Q : Nat → Nat, ∀ b, b < 10 → Q b ≤ 4 ∧ cg MC' 8 b 2 = nI (Q b) ∧ rg MR' 1314 0 b = nI (Q b) ∧ ∀ k, k < Q b → eEn b k MC' MR' := by
      refine ⟨fun b => nx (cg MC' 8 b 2), fun b hb => ?_⟩
      obtain ⟨q, q1, q2, q3, q4⟩ := hQ b hb
      have : nx (cg MC' 8 b 2) = q := by rw [q2, ex_nI (by omega)]
      dsimp only
      rw [this]; exact ⟨q1, q2, q3, q4⟩
    obtain ⟨MC3, p1, I1, I2, I3, I4, I5⟩ := pose17_c (M0 := MC2) (Q := Q) hm (by rw [f12 3 0 4 rfl]; exact G0.1) (fun b hb => ⟨(hQ' b (by omega)).1, by rw [f12 8 b 2 rfl]; exact (hQ' b (by omega)).2.1⟩) (fun b hb => by
      unfold ePb
      simp only [hcp]
      exact ⟨fun k hk => r2.1 b k hb hk, fun k l hkl hl => r2.2 b k l hb hkl hl⟩)
    obtain ⟨MRa, hRa⟩ : ∃ N, N = rs (rs (rs MR' 12 0 40 (nI a)) 12 0 41 (nI v)) 12 0 42 (nI c) := ⟨_, rfl⟩
    have fRa : eH [11240, 11241, 11242] MR' MRa := by rw [hRa]; exact (by repeat (first | exact eH_refl | refine eH_rs ?_ rfl | refine eH_rsl ?_))
    have eRa : (rs (rs (rs MR' 12 0 40 (rg MR' 12 0 36)) 12 0 41 (rg (rs MR' 12 0 40 (rg MR' 12 0 36)) 12 0 37)) 12 0 42 (rg (rs (rs MR' 12 0 40 (rg MR' 12 0 36)) 12 0 41 (rg (rs MR' 12 0 40 (rg MR' 12 0 36)) 12 0 37)) 12 0 38)) = MRa := by
      have z1 : rg (rs MR' 12 0 40 (nI a)) 12 0 37 = nI v := by rw [rg_rs, if_neg (by decide), k37]
      have z2 : rg (rs (rs MR' 12 0 40 (nI a)) 12 0 41 (nI v)) 12 0 38 = nI c := by rw [rg_rs, if_neg (by decide), rg_rs, if_neg (by decide), d3]
      rw [k36, z1, z2, hRa]
    rw [eRa]
    obtain ⟨MRb, w1, w2, w3, w4, w5, w6, w7, w8⟩ := ask36_e (MR := MRa) (Q := Q) hm (by rw [fRa 12 0 0 rfl]; exact G0.2.1) (fun b hb => by
      obtain ⟨q1, q2, q3, q4⟩ := hQ' b (by omega)
      refine ⟨q1, by rw [fRa 1314 0 b rfl]; exact q3, fun k hk => ?_⟩
      rw [fRa 1315 0 _ rfl, fRa 1315 0 _ rfl]
      intro hz
      rcases q4 k hk with ⟨y1, y2, y3⟩ | ⟨y1, -⟩
      · rw [← y2]; exact eNe1 y3
      · rw [hz] at y1; exact absurd y1 (by decide))
    rw [w1]
    unfold m0_pose
    rw [b1, zbv_s, e1, zbv_s, p1, zbv_s]
    have hw7 : cg (cs MC3 10 0 1 0) 7 1 1 = rg MRa 12 0 41 := by
      show cg MC3 7 1 1 = _
      rw [I1 7 1 1 rfl, e2 7 1 1 rfl, b4 1 (by omega), k1, hRa]; rfl
    obtain ⟨MC4, hC4⟩ : ∃ N, N = cs MC3 10 0 1 0 := ⟨_, rfl⟩
    have f4 : eF [11001] MC3 MC4 := by rw [hC4]; exact (by repeat (first | exact eF_refl | refine eF_cs ?_ rfl))
    have hp4 : ∀ k i s, cp MC4 k i s = cp MC3 k i s := fun k i s => by rw [hC4, cp_cs]
    rw [← hC4] at hw7 ⊢
    have FC : eF [11002, 11003, 10700, 10701, 10702, 803, 804, 805, 10750, 10751, 10752, 20803, 20804, 20805, 10900, 10901, 10902, 10903, 10904, 10802, 900, 10214, 11001] MC MC4 := eF_trans (eF_mono h4 rfl) (eF_trans (eF_mono f12 rfl) (eF_trans (eF_mono I1 rfl) (eF_mono f4 rfl)))
    have FR : eH [11230, 11231, 11232, 11234, 11235, 11236, 11237, 11238, 1339, 11240, 11241, 11242, 1343, 1314, 1315, 1316, 1317, 11228] MR MRb := eH_trans (eH_mono h5 rfl) (eH_trans (eH_mono fRa rfl) (eH_mono w2 rfl))
    refine eO_fin hw7 ⟨m, t, hm, ht, eG0_fr g0 FC FR rfl rfl, eG1_fr g1 FC FR rfl rfl, eG2_fr g2 FC FR rfl rfl, ?_, ?_, ?_, eG6_fr g6 FC FR rfl rfl, eG7_mono (eG7_fr g7 FC FR rfl rfl) (Nat.le_succ n), eG8_fr g8 FC FR ?_ rfl rfl, eG9_fr g9 FC FR rfl rfl⟩
    · have hrow : ∀ b, b < m → eRow b MC3 MRb ∧ eM3 MC3 b = 0 := by
        intro b hb
        obtain ⟨⟨q', v1, v2, v3, v4⟩, -, -⟩ := I3 b hb
        obtain ⟨q1, q2, q3, q4⟩ := hQ' b (by omega)
        have wo : eWo b (Q b) MR' MRb := by
          have := w4 b hb
          have er : eRw MRa b = eRw MR' b := by
            funext k; unfold eRw; rw [fRa 1315 0 _ rfl, fRa 1315 0 _ rfl]
          unfold eWo at *
          rw [er] at this
          exact this
        have := row_join (MC := MC') (MC' := MC3) (q' := q') q4 q1 ⟨v1, v2, v3, by rw [v4]; exact eCmp_congr (fun k _ => f12 900 b k rfl)⟩ wo
        exact ⟨this.1, this.2.1⟩
      have hbig : ∀ b, b < 10 → m ≤ b → cg MC3 8 b 2 = 0 ∧ cg MC3 2 b 14 = 0 ∧ ∀ s, s < 5 → cg MC3 9 b s = 0 := by
        intro b hb hmb
        obtain ⟨x1, x2, x3⟩ := r7 b hb hmb
        obtain ⟨y1, y2, -, y4, -⟩ := I4 b hmb
        refine ⟨by rw [y1, f12 8 b 2 rfl, x1], by rw [y2, f12 2 b 14 rfl, x2], fun s hs => ?_⟩
        rw [y4, e5 b s (by omega)]
        have : cg MC1 9 b s = cg MC' 9 b s := by
          refine b2 9 b s ?_
          show [10750, 10751, 10752, 20803, 20804, 20805].contains (10000 + 100 * 9 + s) = false
          simp; omega
        rw [this]; exact x3 s hs
      have c9 : ∀ i s, cg MC4 9 i s = cg MC3 9 i s := fun i s => by rw [hC4, cg_cs, if_neg (by omega)]
      have hz9 : ∀ b, b < 10 → ∀ s, s < 5 → cg MC3 9 b s = 0 := by
        intro b hb s hs
        by_cases hbm : b < m
        · exact (I3 b hbm).2.2 s hs
        · exact (hbig b hb (by omega)).2.2 s hs
      have hz50 : ∀ s, s < 5 → cg MC3 9 50 s = 0 := fun s hs => by rw [(I4 50 (by omega)).2.2.2.1, e4 s hs]
      have hm3 : ∀ b, b < 10 → eM3 MC3 b = 0 := by
        intro b hb
        by_cases hbm : b < m
        · exact (hrow b hbm).2
        · unfold eM3; rw [(hbig b hb (by omega)).1]; rfl
      have G3' : eG3 m MC3 MRb := by
        refine ⟨fun b hb => ?_, ⟨fun b k hb hk => (I5 b hb).1 k hk, fun b k l hb hkl hl => (I5 b hb).2 k l hkl hl⟩, fun b s hb hs => ?_, fun s hs => ?_, hz9 0 (by omega) 2 (by omega), fun b hb => ?_, hbig, fun i hi => ?_, ?_⟩
        · by_cases hbm : b < m
          · exact (hrow b hbm).1
          · refine ⟨0, by omega, (hbig b hb (by omega)).1, ?_, fun k hk => absurd hk (by omega)⟩
            obtain ⟨q, q1, q2, q3, -⟩ := hQ b hb
            rw [w5 b (by omega), fRa 1314 0 b rfl, q3, ← q2, (r7 b hb (by omega)).1]; rfl
        · rw [hz9 b hb s hs, w6 _ (by omega)]
        · rw [hz50 s hs, w6 _ (by omega)]
        · rw [w7 b hb]
          refine ⟨?_, .inl rfl⟩
          by_cases hbm : b < m
          · exact (I3 b hbm).2.1
          · exact (hbig b hb (by omega)).2.1
        · by_cases hi10 : i < 10
          · exact eSm_0 (hz9 i hi10 2 (by omega)) (hz9 i hi10 3 (by omega)) (hz9 i hi10 4 (by omega))
          · by_cases hi50 : i = 50
            · subst hi50; exact eSm_0 (hz50 2 (by omega)) (hz50 3 (by omega)) (hz50 4 (by omega))
            · obtain ⟨mn, al, s1, s2, s3, s4, s5⟩ := r8 i hi
              refine ⟨mn, al, s1, s2, ?_, ?_, fun h0 => ?_⟩
              · rw [(I4 i (by omega)).2.2.2.1, e5 i 2 hi50, b2 9 i 2 rfl, s3]
              · rw [(I4 i (by omega)).2.2.2.1, e5 i 3 hi50, b2 9 i 3 rfl, s4]
              · rw [(I4 i (by omega)).2.2.2.1, e5 i 4 hi50, b2 9 i 4 rfl, s5 h0]
        · rw [eMs_0 (fun b hb => hz9 b hb 2 (by omega)) hm3 (hz50 2 (by omega))]; omega
      exact eG3_fr G3' f4 (eH_refl (K := [])) (fun b k => hp4 901 b k) rfl rfl
    · exact ⟨0, by omega, by rw [hC4]; rfl, w8, fun j hj => absurd hj (by omega)⟩
    · refine .inr ⟨a, v, c, ha1, ha4, hv1, hv60, d1, ?_, ?_, ?_, ?_, ?_, ?_, fun k hk => ?_⟩
      · rw [w2 12 0 40 rfl, hRa]; rfl
      · rw [f4 7 1 0 rfl, I1 7 1 0 rfl, e2 7 1 0 rfl, b4 0 (by omega), k0]
      · rw [w2 12 0 41 rfl, hRa]; rfl
      · rw [f4 7 1 1 rfl, I1 7 1 1 rfl, e2 7 1 1 rfl, b4 1 (by omega), k1]
      · rw [w2 12 0 42 rfl, hRa]; rfl
      · rw [f4 7 1 2 rfl, I1 7 1 2 rfl, e2 7 1 2 rfl, b4 2 (by omega), d2]
      · have hcd := d4 k hk
        obtain ⟨y3, y4, y5⟩ := b5 k hk
        unfold eCd at *
        rw [w3 _ (by omega), w3 _ (by omega), w3 _ (by omega), fRa 1339 0 _ rfl, fRa 1339 0 _ rfl, fRa 1339 0 _ rfl, f4 803 1 k rfl, f4 804 1 k rfl, f4 805 1 k rfl, I1 803 1 k rfl, I1 804 1 k rfl, I1 805 1 k rfl, e2 803 1 k rfl, e2 804 1 k rfl, e2 805 1 k rfl, y3, y4, y5]
        exact hcd
    · refine ⟨?_, ?_⟩
      · rw [hp4, I2 4 0 8 (by omega), hcp]; unfold cp; rw [hp]
      · rw [hp4, I2 4 0 9 (by omega), hcp]; unfold cp; rw [hp]
