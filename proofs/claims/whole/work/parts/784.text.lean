/-! every, the end, the whole text -/
theorem eL_m2 {v : Nat} (hv : v < 2 ^ 63) : ¬ eL v = -2 := by
  intro h
  have := congrArg Int64.toNatClampNeg h
  unfold eL at this
  rw [Int64.toNatClampNeg_ofNat_of_lt hv, show (-2 : Int64).toNatClampNeg = 0 from by decide] at this
  subst this
  exact absurd h (by decide)
theorem tk_end {T : Nat → Int32} {q s e : Nat} {MC : cM} {MR : rM} (h : eTP T q s e MC MR) : rgl MR 12 0 33 = -2 ↔ cg MC 10 0 2 = cg MC 10 0 1 := by
  obtain ⟨hC, hR, h2, h3, hk, a1, a2, a3, a4, a5⟩ := h
  rw [hk.2.2.1, h2, hC.2.1, eI_inj (by have := hC.1; omega) (by have := hC.1; omega)]
  by_cases hq : q ≤ s
  · rw [if_pos hq]
    exact ⟨fun _ => by omega, fun _ => rfl⟩
  · rw [if_neg hq]
    refine ⟨fun h => ?_, fun h => by omega⟩
    exfalso
    split at h
    · rename_i hc
      refine eL_m2 (lt27 (eV_lt (eLt T s) (e - s) (fun i hi => ?_)) hc.2) h
      have := kn1.mp ((a5 (s + i) (by omega) (by omega)).trans hc.1)
      obtain ⟨x, hx, hTx⟩ := eI_ofl (b := 122) (Int32.le_trans (show (0 : Int32) ≤ 97 by decide) this.1) this.2 (by decide)
      unfold eLt
      rw [hTx, ex_nI (by omega)]; omega
    · exact absurd h (by decide)
/-- what stands at the end of a reading -/
def eRd (MC0 : cM) (MR0 : rM) (oC : Option (Int32 × cM)) (oR : Option (Int32 × rM)) : Prop := (∃ s MC MR, s ≤ 120 ∧ oC = some (nI s, MC) ∧ oR = some (0, MR) ∧ rg MR 12 0 30 = nI s ∧ eFr MC0 MC MR0 MR) ∨ ∃ MC MR a v c, oC = some (-1, MC) ∧ oR = some (1, MR) ∧ eFr MC0 MC MR0 MR ∧ eDr c MC MR ∧ 1 ≤ a ∧ a ≤ 4 ∧ 1 ≤ v ∧ v ≤ 60 ∧ cg MC 7 0 0 = nI (a - 1) ∧ rg MR 12 0 36 = nI a ∧ cg MC 7 0 1 = nI v ∧ rg MR 12 0 37 = nI v
theorem rd_st {MC0 : cM} {MR0 : rM} {oC : Option (Int32 × cM)} {oR : Option (Int32 × rM)} {g : Int32 → cM → Option (Int32 × cM)} (h : eSt MC0 MR0 oC oR) (hg : ∀ M, g 0 M = m10_read_53 0 M) : eRd MC0 MR0 (zbd oC g) oR := by
  obtain ⟨s, MC, MR, h1, h2, h3, h4, h5, h6⟩ := h
  refine .inl ⟨s, MC, MR, h1, ?_, h3, h5, h6⟩
  rw [h2, zbd_s, hg]
  unfold m10_read_53
  rw [if_pos rfl, h4]
def everyC (M5 : cM) : Option (Int32 × cM) := zbd (m10_readEvery M5) (fun r6 M6 => (if r6 = 0 then m10_read_53 (0 : Int32) M6 else (if (cg M6 10 0 2) = (cg M6 10 0 1) then m10_read_53 (1 : Int32) M6 else m10_read_53 (0 : Int32) M6)))
theorem every_e {T : Nat → Int32} {q s e c f a : Nat} {MC0 MC : cM} {MR0 MR : rM} (h : eTP T q s e MC MR) (hf : eFr MC0 MC MR0 MR) (hd : eDr c MC MR) (ha1 : 1 ≤ a) (ha4 : a ≤ 4) (hk1 : cg MC 7 0 0 = nI (a - 1)) (hk2 : rg MR 12 0 36 = nI a) : eRd MC0 MR0 (everyC MC) (m12_isRead_126 (f + 1) 0 MR) := by
  unfold everyC m10_readEvery
  rw [m12_isRead_126, if_pos rfl, show (3094387 : Int64) = eL (eWv 10) from rfl]
  have stop : ∀ {s' e' : Nat} {MCa : cM} {MRa : rM}, eTP T q s' e' MCa MRa → eFr MC0 MCa MR0 MRa → eRd MC0 MR0 (m10_read_53 0 MCa) (zbd (m12_fails MRa) (fun r M => zgd (zbl r) (some (r, M)))) := by
    intro s' e' MCa MRa h1 h2
    exact rd_st (g := fun r M => m10_read_53 r M) (fails_e h1 h2) (fun _ => rfl)
  rcases tp_word h 10 (by omega) with ⟨a1, a2, MCa, a3, a4⟩ | ⟨a1, a2, a3⟩
  · obtain ⟨MRa, s', e', n1, n2, n3, n4, n5⟩ := tp_pass h a4 (eH_refl (K := [])) rfl
    have fa := eFr_next hf n2 n3 n4
    have hda := eDr_fr hd n2 n4 rfl rfl
    rw [a2, a3, zbd_s, zbd_s, if_neg (by decide), if_neg (by decide), n1, zbv_s]
    have n5' := n5
    obtain ⟨hC, hR, h2, h3, hk, b1, b2, b3, b4, b5⟩ := n5
    obtain ⟨nm1, nm2⟩ := num_c hC b1 b2 b3 b4 b5 h2 h3
    obtain ⟨nr1, nr2⟩ := num_e (lo := 1) (hi := 60) hC.1 b1 b2 b4 (by omega) (by omega) hk nm2
    rw [nm1, zbd_s, show m12_isNumber (1 : Int32) 60 MRa = m12_isNumber (nI 1) (nI 60) MRa from rfl, nr1, zbd_s]
    cases hN : eNb T q s' e' with
    | none =>
      rw [if_pos (by decide), zbd_s, if_pos rfl]
      exact stop n5' fa
    | some v =>
      have hv := nm2 v hN
      have hr := nr2 v hN
      have i0 : (eBI (some v)) = nI v := rfl
      rw [i0]
      dsimp only
      by_cases hin : 1 ≤ v ∧ v ≤ 60
      · rw [if_neg (show ¬ nI v < 1 from fun h => by rw [show (1 : Int32) = nI 1 from rfl, eI_lt (by omega) (by omega)] at h; omega), if_pos (show nI v ≤ 60 from by rw [show (60 : Int32) = nI 60 from rfl, eI_le (by omega) (by omega)]; omega)]
        simp only [show (if 1 ≤ v ∧ v ≤ 60 then (1 : Int32) else 0) = 1 from if_pos hin, show ((1 : Int32) = 0) = False from eq_false (by decide), if_false]
        rw [hr]
        obtain ⟨MCb, hCb⟩ : ∃ N, N = cs MCa 7 0 1 (nI v) := ⟨_, rfl⟩
        obtain ⟨MRb, hRb⟩ : ∃ N, N = rs MRa 12 0 37 (nI v) := ⟨_, rfl⟩
        have fC : eF [10701] MCa MCb := by rw [hCb]; exact (by repeat (first | exact eF_refl | refine eF_cs ?_ rfl))
        have fR : eH [11237] MRa MRb := by rw [hRb]; exact (by repeat (first | exact eH_refl | refine eH_rs ?_ rfl | refine eH_rsl ?_))
        have tb : eTP T q s' e' MCb MRb := tp_fr n5' fC fR (by rw [hRb]; rfl) rfl rfl
        obtain ⟨MCc, MRc, s2, e2, q1, q2, q3, q4, q5, q6⟩ := tp_next tb.1 tb.2.1 tb.2.2.2.2.2.2.1 tb.2.2.2.1 tb.2.2.2.2.1.1
        rw [← hCb, ← hRb, q1, zbv_s, q2, zbv_s, zbd_s, if_neg (show ¬ (1 : Int32) = 0 by decide)]
        have fc : eFr MC0 MCc MR0 MRc := ⟨eF_trans fa.1 (eF_trans (eF_mono fC rfl) (eF_mono q3 rfl)), by rw [q4, hCb]; exact fa.2.1, eH_trans fa.2.2 (eH_trans (eH_mono fR rfl) (eH_mono q5 rfl))⟩
        by_cases hend : cg MCc 10 0 2 = cg MCc 10 0 1
        · rw [if_pos hend, if_pos ((lg_cmp_eq _ _).mpr ((tk_end q6).mpr hend))]
          refine .inr ⟨MCc, MRc, a, v, c, by rw [m10_read_53, if_neg (by decide)], rfl, fc, eDr_fr (eDr_fr hda fC fR rfl rfl) q3 q5 rfl rfl, ha1, ha4, hin.1, hin.2, ?_, ?_, ?_, ?_⟩
          · rw [q3 7 0 0 rfl, fC 7 0 0 rfl, n2 7 0 0 rfl, hk1]
          · rw [q5 12 0 36 rfl, fR 12 0 36 rfl, n4 12 0 36 rfl, hk2]
          · rw [q3 7 0 1 rfl, hCb]; rfl
          · rw [q5 12 0 37 rfl, hRb]; rfl
        · rw [if_neg hend, if_neg (fun h => hend ((tk_end q6).mp ((lg_cmp_eq _ _).mp h)))]
          have := stop q6 fc
          unfold m12_fails at *
          rw [zbd_s] at *
          exact this
      · have hz : (if (nI v : Int32) < 1 then (some ((0 : Int32), MCa) : Option (Int32 × cM)) else if nI v ≤ 60 then zbv (m10_nextToken (cs MCa 7 0 1 (nI v))) (fun M3 => some (1, M3)) else some (0, MCa)) = some (0, MCa) := by
          by_cases h1 : v < 1
          · rw [if_pos (show nI v < 1 from by rw [show (1 : Int32) = nI 1 from rfl, eI_lt (by omega) (by omega)]; omega)]
          · rw [if_neg (show ¬ nI v < 1 from fun h => by rw [show (1 : Int32) = nI 1 from rfl, eI_lt (by omega) (by omega)] at h; omega), if_neg (show ¬ nI v ≤ 60 from fun h => by rw [show (60 : Int32) = nI 60 from rfl, eI_le (by omega) (by omega)] at h; omega)]
        rw [hz]
        simp only [show (if 1 ≤ v ∧ v ≤ 60 then (1 : Int32) else 0) = 0 from if_neg hin, if_true, eq_self, zbd_s]
        exact stop n5' fa
  · rw [a2, a3, zbd_s, zbd_s, if_pos rfl, if_pos rfl, zbd_s, if_pos rfl]
    exact stop h hf
theorem read_e {MC : cM} {MR : rM} (h : eG4 MC MR) : eRd MC MR (m10_read MC) (m12_isRead MR) := by
  obtain ⟨q, hq, h1, h2, hT⟩ := h
  unfold m10_read m12_isRead m7_clear
  simp only [show Nat.blt 0 2 = true from rfl, zbd_s, zbv_s, zgd_t, Bool.and_true, Bool.true_and, Bool.and_self, if_true, if_false, e_01, eq_self, Bool.false_eq_true]
  obtain ⟨MCa, hCa⟩ : ∃ N, N = cs (cs (cs (cs MC 7 0 0 0) 7 0 1 0) 7 0 2 0) 10 0 3 0 := ⟨_, rfl⟩
  obtain ⟨MRa, hRa⟩ : ∃ N, N = rs (rs MR 12 0 31 0) 12 0 38 0 := ⟨_, rfl⟩
  have fC : eF [10700, 10701, 10702, 11003] MC MCa := by rw [hCa]; exact (by repeat (first | exact eF_refl | refine eF_cs ?_ rfl))
  have fR : eH [11231, 11238] MR MRa := by rw [hRa]; exact (by repeat (first | exact eH_refl | refine eH_rs ?_ rfl | refine eH_rsl ?_))
  rw [← hCa, ← hRa]
  obtain ⟨MCb, MRb, s, e, q1, q2, q3, q4, q5, q6⟩ := tp_next (T := fun j => rg MR 1329 0 j) (q := q) (p := 0) (MC := MCa) (MR := MRa) ⟨hq, by rw [fC 10 0 1 rfl, h1], fun j hj => by rw [fC 1100 0 j rfl, (hT j hj).1]⟩ ⟨hq, by rw [fR 12 0 28 rfl, h2], fun j hj => by rw [fR 1329 0 j rfl]⟩ (Nat.zero_le q) (by rw [hCa]; rfl) (by rw [hRa]; rfl)
  rw [q1, zbv_s, q2, zbv_s]
  have fb : eFr MC MCb MR MRb := ⟨eF_trans (eF_mono fC rfl) (eF_mono q3 rfl), by rw [q4, hCa]; rfl, eH_trans (eH_mono fR rfl) (eH_mono q5 rfl)⟩
  have hd : eDr 0 MCb MRb := ⟨by omega, by rw [q3 7 0 2 rfl, hCa]; rfl, by rw [q5 12 0 38 rfl, hRa]; rfl, fun k hk => absurd hk (by omega)⟩
  show eRd MC MR (zbd (m10_readAim MCb) _) (aimR MRb)
  rcases aim_e q6 fb with hs | ⟨MCc, MRc, s2, e2, a, z1, z2, z3, z4, z5, z6, z7, z8, z9, z10⟩
  · exact rd_st hs (fun M => by rw [if_pos rfl])
  · rw [z1, z2, zbd_s, if_neg (by decide)]
    rcases allc_e z3 z4 (eDr_fr hd z5 z6 rfl rfl) with hs | ⟨MCd, MRd, s3, e3, c, f, y1, y2, y3, y4, y5, y6, y7⟩
    · exact rd_st hs (fun M => by rw [if_pos rfl])
    · rw [y1, y2, zbd_s, if_neg (by decide)]
      exact every_e y3 y4 y5 z7 z8 (by rw [y6, z9]) (by rw [y7, z10])
