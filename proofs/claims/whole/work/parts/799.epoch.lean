/-! an epoch of both -/
def eKT : List Nat := [10007, 10008, 10009, 10005, 10006, 103, 104, 10202, 10802, 900, 10900, 10901, 10902, 10903, 10904, 10214]
def eKT' : List Nat := [1302, 1322, 1323, 1324, 1325, 1326, 1327, 1314, 1315, 1316, 1317, 11218, 11220, 1319, 1321]
def eTS (m : Nat) (MC0 : cM) (MR0 : rM) (MC : cM) (MR : rM) : Prop := eF eKT MC0 MC ∧ (∀ kk i s, ¬ kk = 901 → cp MC kk i s = cp MC0 kk i s) ∧ eH eKT' MR0 MR ∧ eG1 m MC MR ∧ eG3 m MC MR ∧ eG9 MC MR
theorem eSig_le1 {n : Nat} {f : Nat → Nat} (h0 : f 0 = 0) (h : ∀ k, k < n + 1 → f k ≤ 1) : eSig (n + 1) f ≤ n := by
  induction n with
  | zero => rw [eSig_s, h0]; exact Nat.le_refl _
  | succ n ih =>
    rw [eSig_s]
    have := ih (fun k hk => h k (by omega))
    have := h (n + 1) (by omega)
    omega
theorem eSs_sm {i b : Nat} {o : Option Int32} {M : cM} (h : ∀ s, s < 5 → cg M 9 i s = eSs o b s) (ho : ∀ v, o = some v → ∃ a : Nat, a ≤ 15 ∧ v = nI a) : eSm i M ∧ nx (cg M 9 i 2) ≤ 1 := by
  cases o with
  | none =>
    have h2 : cg M 9 i 2 = 0 := h 2 (by omega)
    refine ⟨eSm_0 h2 (h 3 (by omega)) (h 4 (by omega)), ?_⟩
    rw [h2]; decide
  | some v =>
    obtain ⟨a, ha, hv⟩ := ho v rfl
    have h2 : cg M 9 i 2 = nI 1 := h 2 (by omega)
    have h3 : cg M 9 i 3 = nI a := (h 3 (by omega)).trans hv
    refine ⟨⟨1, a, by omega, by omega, h2, h3, fun h => absurd h (by omega)⟩, ?_⟩
    rw [h2]; decide
theorem epoch_cr {m t : Nat} {MC0 MC : cM} {MR0 MR : rM} (hm : m ≤ 10) (ht : t ≤ 9000) (h : eTS m MC0 MR0 MC MR) (g0 : eG0 m t MC0 MR0) (hup : eUp m MC MR) {c : Nat} (hc : c ≤ 8) (h42 : rg MR0 12 0 42 = nI c) (h72 : cg MC0 7 1 2 = nI c) (hcd : ∀ k, k < c → eCd 1 1343 k MC0 MR0) : ∃ MC' MR', m0_beginEpoch MC = some MC' ∧ m12_beginEpoch (nI t) MR = some MR' ∧ eTS m MC0 MR0 MC' MR' ∧ eUp m MC' MR' := by
  obtain ⟨f0, p0, r0, g1, g3, g9⟩ := h
  obtain ⟨r1, r2, r3, r4, r5, r6, r7, r8, r9⟩ := g3
  have hQ : ∀ b, b < 10 → ∃ q, q ≤ 4 ∧ cg MC 8 b 2 = nI q ∧ rg MR 1314 0 b = nI q ∧ ∀ k, k < q → eEn b k MC MR := r1
  obtain ⟨Q, hQ'⟩ : ∃ Q : Nat → Nat, ∀ b, b < 10 → Q b ≤ 4 ∧ cg MC 8 b 2 = nI (Q b) ∧ rg MR 1314 0 b = nI (Q b) ∧ ∀ k, k < Q b → eEn b k MC MR := by
    refine ⟨fun b => nx (cg MC 8 b 2), fun b hb => ?_⟩
    obtain ⟨q, q1, q2, q3, q4⟩ := hQ b hb
    have : nx (cg MC 8 b 2) = q := by rw [q2, ex_nI (by omega)]
    dsimp only
    rw [this]; exact ⟨q1, q2, q3, q4⟩
  obtain ⟨M1, a1, a2, a3, a4, a5⟩ := clear9_c (show 50 < 51 by omega) MC
  obtain ⟨M2, hM2⟩ : ∃ X, X = cs M1 0 0 6 (nI t) := ⟨_, rfl⟩
  have f2 : eF [10006] M1 M2 := by rw [hM2]; exact (by repeat (first | exact eF_refl | refine eF_cs ?_ rfl))
  have f02 : eF [10900, 10901, 10902, 10903, 10904, 10006] MC M2 := eF_trans (eF_mono a2 rfl) (eF_mono f2 rfl)
  have hp2 : ∀ kk i s, cp M2 kk i s = cp MC kk i s := fun kk i s => by rw [hM2, cp_cs]; unfold cp; rw [a3]
  have c92 : ∀ i s, cg M2 9 i s = cg M1 9 i s := fun i s => by rw [hM2, cg_cs, if_neg (by omega)]
  have hup2 : eUp m M2 MR := fun b hb => by rw [f02 0 0 7 rfl, f02 0 0 8 rfl]; exact hup b hb
  have hs2 : ∀ i, i < 51 → eSm i M2 := by
    intro i hi
    by_cases hi50 : i = 50
    · subst hi50
      exact eSm_0 (by rw [c92, a4 2 (by omega)]) (by rw [c92, a4 3 (by omega)]) (by rw [c92, a4 4 (by omega)])
    · obtain ⟨mn, al, s1, s2, s3, s4, s5⟩ := r8 i hi
      exact ⟨mn, al, s1, s2, by rw [c92, a5 i 2 hi50, s3], by rw [c92, a5 i 3 hi50, s4], fun h => by rw [c92, a5 i 4 hi50, s5 h]⟩
  have hcd2 : ∀ k, k < c → eCd 1 1343 k M2 MR := by
    intro k hk
    have := hcd k hk
    unfold eCd at *
    rw [f02 803 1 k rfl, f02 804 1 k rfl, f02 805 1 k rfl, f0 803 1 k rfl, f0 804 1 k rfl, f0 805 1 k rfl, r0 1343 0 _ rfl, r0 1343 0 _ rfl, r0 1343 0 _ rfl]
    exact this
  obtain ⟨M3, b1, i1, i2, i3, i4, i5, i6, i7, i8⟩ := epoch_c (m := m) (t := t) (c := c) (Q := Q) (M0 := M2) (MR := MR) hm ht hc (by rw [f02 3 0 4 rfl, f0 3 0 4 rfl]; exact g0.1) (by rw [f02 3 0 5 rfl, f0 3 0 5 rfl]; exact g0.2.2.1) (eG1_fr g1 f02 (eH_refl (K := [])) rfl rfl) hup2 (by rw [f02 7 1 2 rfl, f0 7 1 2 rfl, h72]) hcd2 (fun b hb => ⟨(hQ' b (by omega)).1, by rw [f02 8 b 2 rfl]; exact (hQ' b (by omega)).2.1⟩) (fun b hb => by
    unfold ePb
    simp only [hp2]
    exact ⟨fun k hk => r2.1 b k hb hk, fun k l hkl hl => r2.2 b k l hb hkl hl⟩) (fun b hb => ⟨by rw [c92, a5 b 2 (by omega)]; exact (r3 b 2 hb (by omega)).symm, by rw [f02 2 b 14 rfl]; exact (r6 b hb).1.symm⟩) hs2 (fun s hs => by rw [c92, a4 s hs])
  obtain ⟨M4, d1, d2, d3, d4, d5, d6, d7, e1, e2, e3, e4, e5, e6⟩ := epoch_e (m := m) (t := t) (c := c) (MC := MC) (MR := MR) (Q := Q) hm ht hc (by rw [r0 12 0 0 rfl]; exact g0.2.1) (by rw [r0 12 0 42 rfl, h42]) (fun b hb => by
    obtain ⟨q1, q2, q3, q4⟩ := hQ' b (by omega)
    refine ⟨q1, q3, fun k hk hz => ?_⟩
    rcases q4 k hk with ⟨y1, y2, y3⟩ | ⟨y1, -⟩
    · rw [← y2]; exact eNe1 y3
    · rw [hz] at y1; exact absurd y1 (by decide)) (by
    unfold eUn
    have := r3 0 2 (by omega) (by omega)
    rw [← this, r5, if_pos (Int32.le_refl 0)])
  have fM : eF [10006, 10802, 900, 10900, 10901, 10902, 10903, 10904, 10214, 103] MC M3 := eF_trans (eF_mono f02 rfl) (eF_mono i1 rfl)
  have hE : ∀ b, b < m → eRow b M3 M4 ∧ eM3 M3 b = 0 := by
    intro b hb
    obtain ⟨⟨v1, v2, v3, v4⟩, -, -⟩ := i3 b hb
    obtain ⟨q1, q2, q3, q4⟩ := hQ' b (by omega)
    have := row_join (MC := MC) (MC' := M3) q4 q1 ⟨v1, v2, v3, v4.trans (eCmp_congr (fun k _ => f02 900 b k rfl))⟩ (d3 b hb)
    exact ⟨this.1, this.2.1⟩
  have hcnt : ∀ b, b < m → (eCmp (fun j => cg M2 900 b j) (Q b)).length = (eCmp (eRw MR b) (Q b)).length := by
    intro b hb
    obtain ⟨q1, q2, q3, q4⟩ := hQ' b (by omega)
    congr 1
    refine eCmp_congr (fun k hk => ?_)
    rw [f02 900 b k rfl]
    unfold eRw
    rcases q4 k hk with ⟨h1, h2, h3⟩ | ⟨h1, h2, -⟩
    · rw [if_pos h1]; exact h2
    · rw [if_neg (by rw [h1]; decide)]; exact h2
  have hbig : ∀ b, b < 10 → m ≤ b → cg M3 8 b 2 = 0 ∧ cg M3 2 b 14 = 0 ∧ ∀ s, s < 5 → cg M3 9 b s = 0 := by
    intro b hb hmb
    obtain ⟨x1, x2, x3⟩ := r7 b hb hmb
    obtain ⟨y1, y2, -, y4, -⟩ := i4 b hmb
    refine ⟨by rw [y1, f02 8 b 2 rfl, x1], by rw [y2, f02 2 b 14 rfl, x2], fun s hs => ?_⟩
    rw [y4 (by omega), c92, a5 b s (by omega)]; exact x3 s hs
  have hval : ∀ b, b < 10 → ∀ v, eVu MR c t b = some v → ∃ a : Nat, a ≤ 15 ∧ v = nI a := by
    intro b hb v hv
    unfold eVu at hv
    split at hv
    · cases hv
    · exact eVlu_ok g1 hb hv
  have hsum : ∀ b, 1 ≤ b → b < m → ∀ s, s < 5 → cg M3 9 b s = eSs (eVu MR c t b) b s := by
    intro b hb1 hb s hs
    rw [(i3 b hb).2.2 s hs, if_neg (by omega)]
  have hz0 : ∀ s, s < 5 → cg M3 9 0 s = 0 := by
    intro s hs
    by_cases hm0 : 0 < m
    · rw [(i3 0 hm0).2.2 s hs, if_pos rfl]
    · exact (hbig 0 (by omega) (by omega)).2.2 s hs
  have h50 : ∃ o, (∀ s, s < 5 → cg M3 9 50 s = eSs o 0 s) ∧ ∀ v, o = some v → ∃ a : Nat, a ≤ 15 ∧ v = nI a := by
    by_cases hm0 : 0 < m
    · exact ⟨eVu MR c t 0, fun s hs => by rw [i6 s hs, if_pos hm0], hval 0 (by omega)⟩
    · exact ⟨none, fun s hs => by rw [i6 s hs, if_neg hm0, eSs_none], fun v hv => by cases hv⟩
  obtain ⟨o50, ho50, hv50⟩ := h50
  have sm50 := eSs_sm ho50 hv50
  have hsm : ∀ b, b < 10 → eSm b M3 ∧ nx (cg M3 9 b 2) ≤ 1 := by
    intro b hb
    by_cases hb0 : b = 0
    · subst hb0
      exact eSs_sm (o := none) (b := 0) (fun s hs => by rw [hz0 s hs, eSs_none]) (fun v hv => by cases hv)
    · by_cases hbm : b < m
      · exact eSs_sm (hsum b (by omega) hbm) (hval b hb)
      · exact eSs_sm (o := none) (b := b) (fun s hs => by rw [(hbig b hb (by omega)).2.2 s hs, eSs_none]) (fun v hv => by cases hv)
  have hm3 : ∀ b, b < 10 → eM3 M3 b = 0 := by
    intro b hb
    by_cases hbm : b < m
    · exact (hE b hbm).2
    · unfold eM3; rw [(hbig b hb (by omega)).1]; rfl
  refine ⟨M3, M4, ?_, d1, ⟨eF_trans f0 (eF_mono fM rfl), fun kk i s hk => by rw [i2 kk i s hk, hp2, p0 kk i s hk], eH_trans r0 (eH_mono d2 rfl), eG1_fr g1 fM d2 rfl rfl, ⟨fun b hb => ?_, ⟨fun b k hb hk => (i5 b hb).1 k hk, fun b k l hb hkl hl => (i5 b hb).2 k l hkl hl⟩, fun b s hb hs => ?_, fun s hs => ?_, hz0 2 (by omega), fun b hb => ?_, hbig, fun i hi => ?_, ?_⟩, ?_⟩, fun b hb => ?_⟩
  · unfold m0_beginEpoch
    have e35 : cg M1 3 0 5 = nI t := by rw [a2 3 0 5 rfl, f0 3 0 5 rfl]; exact g0.2.2.1
    rw [a1, zbv_s, e35, ← hM2]; exact b1
  · by_cases hbm : b < m
    · exact (hE b hbm).1
    · refine ⟨0, by omega, (hbig b hb (by omega)).1, ?_, fun k hk => absurd hk (by omega)⟩
      obtain ⟨q, q1, q2, q3, -⟩ := hQ b hb
      rw [d4 b (by omega), q3, ← q2, (r7 b hb (by omega)).1]; rfl
  · by_cases hbm : b < m
    · by_cases hb0 : b = 0
      · subst hb0
        rw [hz0 s hs]
        have := e4 s hs hbm
        rw [show 5 * 0 + s = s by omega, this]
      · rw [hsum b (by omega) hbm s hs, e3 b s hbm (by omega) hs]
    · rw [e5 b s (by omega) hb hs, ← r3 b s hb hs, (hbig b hb (by omega)).2.2 s hs, (r7 b hb (by omega)).2.2 s hs]
  · rw [i6 s hs, e6 s hs]
  · by_cases hbm : b < m
    · rw [(i3 b hbm).2.1, e1 b hbm]; exact ⟨rfl, .inl rfl⟩
    · rw [(hbig b hb (by omega)).2.1, e2 b (by omega), ← (r6 b hb).1, (r7 b hb (by omega)).2.1]; exact ⟨rfl, .inl rfl⟩
  · by_cases hi10 : i < 10
    · exact (hsm i hi10).1
    · by_cases hi50 : i = 50
      · subst hi50; exact sm50.1
      · obtain ⟨mn, al, s1, s2, s3, s4, s5⟩ := hs2 i hi
        obtain ⟨-, -, -, y4, -⟩ := i4 i (by omega)
        exact ⟨mn, al, s1, s2, by rw [y4 hi50, s3], by rw [y4 hi50, s4], fun h => by rw [y4 hi50, s5 h]⟩
  · unfold eMs
    have h1 : eSig 10 (eM1 M3) ≤ 9 := by
      refine eSig_le1 ?_ (fun k hk => ?_)
      · unfold eM1; rw [hz0 2 (by omega)]; split <;> rfl
      · unfold eM1; split
        · exact (hsm k (by omega)).2
        · omega
    rw [eSig_0 hm3]
    have := sm50.2
    omega
  · obtain ⟨g91, g92, g93, g94⟩ := g9
    refine ⟨?_, fun j hj => ?_, ?_, fun j hj => ?_⟩
    · rw [i1 0 0 6 rfl, d5, hM2]; rfl
    · by_cases hj5 : j = 5
      · subst hj5
        rw [i7, d6, f02 103 0 5 rfl, g92 5 (by omega)]
        congr 2
        have : ∀ n, n ≤ m → eSig n (fun b => eUn MR b + (Q b - (eCmp (fun j => cg M2 900 b j) (Q b)).length)) = eSig n (fun b => Q b - (eCmp (eRw MR b) (Q b)).length) + eSig n (eUn MR) := by
          intro n
          induction n with
          | zero => intro _; rfl
          | succ n ih =>
            intro hn
            rw [eSig_s, eSig_s, eSig_s, ih (by omega), hcnt n (by omega)]
            omega
        exact this m (Nat.le_refl m)
      · rw [i8 j hj5, d7 j hj5, f02 103 0 j rfl, g92 j hj]
    · obtain ⟨q, q1, q2, q3⟩ := g93
      exact ⟨q, q1, by rw [fM 0 0 5 rfl, q2], by rw [d2 12 0 20 rfl, q3]⟩
    · rw [fM 104 0 j rfl, d2 1321 0 j rfl, g94 j hj]
  · rw [fM 0 0 7 rfl, fM 0 0 8 rfl, d2 1323 0 b rfl, d2 1322 0 b rfl]
    exact hup b hb
