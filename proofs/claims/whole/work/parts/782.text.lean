/-! condition, conditions -/
theorem eCn_tr {k : Int32 → rM → Option (Int32 × rM)} {T : Nat → Int32} {q c : Nat} {MC0 MC MCa : cM} {MR0 MR MRa : rM} {oC : Option (Int32 × cM)} {oR : Option (Int32 × rM)} (h : eCn k T q c MC0 MCa MR0 MRa oC oR) (h1 : cg MCa 7 0 0 = cg MC 7 0 0) (h2 : rg MRa 12 0 36 = rg MR 12 0 36) : eCn k T q c MC0 MC MR0 MR oC oR := by
  rcases h with h | ⟨MC', MR', s, e, a1, a2, a3, a4, a5, a6, a7⟩
  · exact .inl h
  · exact .inr ⟨MC', MR', s, e, a1, a2, a3, a4, a5, by rw [a6, h1], by rw [a7, h2]⟩
theorem c184 {k : Int32 → rM → Option (Int32 × rM)} {T : Nat → Int32} {q s e c : Nat} {x1 t1 : Int32} {MC0 MC MCn : cM} {MR0 MR : rM} (h : eTP T q s e MC MR) (hf : eFr MC0 MC MR0 MR) (hd : eDr c MC MR) (hc : c < 8) (hn : m10_nextToken MC = some MCn) (ht1 : t1 = 0 ∧ x1 = 0 ∨ t1 = 1 ∧ x1 = 1) : eCn k T q c MC0 MC MR0 MR (m10_readCond_22 x1 MCn) (m12_isRead_184 k (nI (3 * c)) t1 MR) := by
  obtain ⟨MR1, hR1⟩ : ∃ N, N = rs MR 1339 0 (3 * c) t1 := ⟨_, rfl⟩
  have f1 : eH [1339] MR MR1 := by rw [hR1]; exact eH_rs eH_refl rfl
  obtain ⟨MR', s', e', n1, n2, n3, n4, n5⟩ := tp_pass h hn f1 rfl
  have fall : eFr MC0 MCn MR0 MR' := ⟨eF_trans hf.1 (eF_mono n2 rfl), n3.trans hf.2.1, eH_trans hf.2.2 (eH_trans (eH_mono f1 rfl) (eH_mono n4 rfl))⟩
  have hd' : eDr c MCn MR' := by
    obtain ⟨d1, d2, d3, d4⟩ := hd
    refine ⟨d1, by rw [n2 7 0 2 rfl, d2], by rw [n4 12 0 38 rfl, f1 12 0 38 rfl, d3], fun k' hk' => cd_fr (d4 k' hk') ⟨n2 803 0 k' rfl, n2 804 0 k' rfl, n2 805 0 k' rfl⟩ (fun j hj => ?_)⟩
    rw [n4 1339 0 _ rfl, hR1, rg_rs, if_neg (by omega)]
  have r38 : rg MR' 12 0 38 = nI c := hd'.2.2.1
  have w0 : rg MR' 1339 0 (3 * c) = t1 := by rw [n4 1339 0 _ rfl, hR1, rg_rs, if_pos ⟨rfl, rfl, rfl⟩]
  have ee : (3 : Int32) * nI c + 1 = nI (3 * c + 1) := by rw [show (3 : Int32) = nI 3 from rfl, show (1 : Int32) = nI 1 from rfl, eI_mul, eI_add]
  refine eCn_tr (MCa := MCn) (MRa := MR') ?_ (n2 7 0 0 rfl) (by rw [n4 12 0 36 rfl, f1 12 0 36 rfl])
  unfold m12_isRead_184 m10_readCond_22 m12_isRead_214
  rw [ezin_nI (show 3 * c < 24 by omega) (by decide), Bool.and_true, zgd_t, ex_nI (show 3 * c < 2 ^ 31 by omega), ← hR1, n1, zbv_s, show (582341 : Int64) = eL (eWv 7) from rfl, show (1170473 : Int64) = eL (eWv 8) from rfl]
  rcases tp_word n5 7 (by omega) with ⟨a1, a2, MCa, a3, a4⟩ | ⟨a1, a2, a3⟩
  · rw [a2, a3]
    simp only [zbd_s, a2, if_false, show ((1 : Int32) = 0) = False from eq_false (by decide), r38, ee]
    exact c241 n5 fall hd' hc a4 w0 ht1 (.inl ⟨rfl, rfl⟩)
  rcases tp_word n5 8 (by omega) with ⟨b1, b2, MCb, b3, b4⟩ | ⟨b1, b2, b3⟩
  · rw [a2, a3]
    simp only [zbd_s, a2, b2, b3, if_true, if_false, eq_self, show ((1 : Int32) = 0) = False from eq_false (by decide), r38, ee]
    exact c241 n5 fall hd' hc b4 w0 ht1 (.inr ⟨rfl, rfl⟩)
  · rw [a2, a3]
    simp only [zbd_s, b2, b3, if_true, eq_self]
    exact .inl (fails_e n5 fall)
theorem cond_e {k : Int32 → rM → Option (Int32 × rM)} {T : Nat → Int32} {q s e c : Nat} {MC0 MC : cM} {MR0 MR : rM} (h : eTP T q s e MC MR) (hf : eFr MC0 MC MR0 MR) (hd : eDr c MC MR) (hc : c < 8) : eCn k T q c MC0 MC MR0 MR (m10_readCond MC) (condR k MR) := by
  have r38 : rg MR 12 0 38 = nI c := hd.2.2.1
  have ee : (3 : Int32) * nI c = nI (3 * c) := by rw [show (3 : Int32) = nI 3 from rfl, eI_mul]
  unfold m10_readCond condR m12_isRead_159
  rw [show (247702 : Int64) = eL (eWv 4) from rfl, show (1887 : Int64) = eL (eWv 6) from rfl]
  rcases tp_word h 6 (by omega) with ⟨a1, a2, MCa, a3, a4⟩ | ⟨a1, a2, a3⟩
  · have b1 := iw_ne a1 (w := 4) (by decide) (by omega) (by omega)
    rcases tp_word h 4 (by omega) with ⟨c1, -⟩ | ⟨-, c1, -⟩
    · exact absurd c1 b1
    simp only [zbd_s, a2, a3, c1, if_true, if_false, eq_self, show ((1 : Int32) = 0) = False from eq_false (by decide), r38, ee]
    exact c184 h hf hd hc a4 (.inr ⟨rfl, rfl⟩)
  rcases tp_word h 4 (by omega) with ⟨b1, b2, MCb, b3, b4⟩ | ⟨b1, b2, b3⟩
  · simp only [zbd_s, a2, a3, b2, b3, if_true, if_false, eq_self, show ((1 : Int32) = 0) = False from eq_false (by decide), r38, ee]
    exact c184 h hf hd hc b4 (.inl ⟨rfl, rfl⟩)
  · simp only [zbd_s, a2, a3, b2, b3, if_true, eq_self]
    exact .inl (fails_e h hf)
/-- behind the conditions -/
def eCs (T : Nat → Int32) (q : Nat) (MC0 MC : cM) (MR0 MR : rM) (oC : Option (Int32 × cM)) (oR : Option (Int32 × rM)) : Prop := eSt MC0 MR0 oC oR ∨ ∃ MC' MR' s e c f, oC = some (1, MC') ∧ oR = m12_isRead_126 (f + 1) 0 MR' ∧ eTP T q s e MC' MR' ∧ eFr MC0 MC' MR0 MR' ∧ eDr c MC' MR' ∧ cg MC' 7 0 0 = cg MC 7 0 0 ∧ rg MR' 12 0 36 = rg MR 12 0 36
theorem eCs_tr {T : Nat → Int32} {q : Nat} {MC0 MC MCa : cM} {MR0 MR MRa : rM} {oC : Option (Int32 × cM)} {oR : Option (Int32 × rM)} (h : eCs T q MC0 MCa MR0 MRa oC oR) (h1 : cg MCa 7 0 0 = cg MC 7 0 0) (h2 : rg MRa 12 0 36 = rg MR 12 0 36) : eCs T q MC0 MC MR0 MR oC oR := by
  rcases h with h | ⟨MC', MR', s, e, c, f, a1, a2, a3, a4, a5, a6, a7⟩
  · exact .inl h
  · exact .inr ⟨MC', MR', s, e, c, f, a1, a2, a3, a4, a5, by rw [a6, h1], by rw [a7, h2]⟩
theorem r126_1 (n : Nat) (M : rM) : m12_isRead_126 (n + 1) 1 M = zbv (m12_nextToken M) (fun M21 => condR (m12_isRead_126 n) M21) := by
  rw [m12_isRead_126, if_neg (by decide)]
  rfl
theorem conds_e {T : Nat → Int32} {q : Nat} {MC0 : cM} {MR0 : rM} (d : Nat) : ∀ (c s e fC fR : Nat) (MC : cM) (MR : rM), c + d = 8 → d < fC → d < fR → eTP T q s e MC MR → eFr MC0 MC MR0 MR → eDr c MC MR → eCs T q MC0 MC MR0 MR (m10_readConds_22 fC (nI c) MC) (condK (m12_isRead_126 fR) MR) := by
  induction d with
  | zero =>
    intro c s e fC fR MC MR hcd hC hR h hf hd
    obtain ⟨fC, rfl⟩ : ∃ f, fC = f + 1 := ⟨fC - 1, by omega⟩
    obtain ⟨fR, rfl⟩ : ∃ f, fR = f + 1 := ⟨fR - 1, by omega⟩
    have hc : c = 8 := by omega
    subst hc
    have r38 : rg MR 12 0 38 = nI 8 := hd.2.2.1
    refine .inr ⟨MC, MR, s, e, 8, fR, ?_, ?_, h, hf, hd, rfl, rfl⟩
    · rw [m10_readConds_22, if_pos (by decide)]
    · unfold condK
      rw [show (1111 : Int64) = eL (eWv 9) from rfl]
      rcases tp_word h 9 (by omega) with ⟨a1, a2, -⟩ | ⟨a1, a2, -⟩
      · rw [a2, zbd_s, if_neg (by decide), r38, if_pos (by decide)]; rfl
      · rw [a2, zbd_s, if_pos rfl]; rfl
  | succ d ih =>
    intro c s e fC fR MC MR hcd hC hR h hf hd
    obtain ⟨fC, rfl⟩ : ∃ f, fC = f + 1 := ⟨fC - 1, by omega⟩
    obtain ⟨fR, rfl⟩ : ∃ f, fR = f + 1 := ⟨fR - 1, by omega⟩
    have hc : c < 8 := by omega
    have r38 : rg MR 12 0 38 = nI c := hd.2.2.1
    have e8 : ¬ (8 : Int32) ≤ nI c := fun h => by rw [show (8 : Int32) = nI 8 from rfl, eI_le (by omega) (by omega)] at h; omega
    rw [m10_readConds_22, if_neg e8]
    unfold condK
    rw [show (1111 : Int64) = eL (eWv 9) from rfl]
    rcases tp_word h 9 (by omega) with ⟨a1, a2, MCa, a3, a4⟩ | ⟨a1, a2, a3⟩
    · rw [a2, a3, zbd_s, zbd_s, if_neg (by decide), if_neg (by decide), r38, if_neg e8]
      show eCs _ _ _ _ _ _ _ (m12_isRead_126 (fR + 1) 1 MR)
      rw [r126_1]
      obtain ⟨MRb, s', e', n1, n2, n3, n4, n5⟩ := tp_pass h a4 (eH_refl (K := [])) rfl
      rw [n1, zbv_s]
      have fb := eFr_next hf n2 n3 n4
      rcases cond_e (k := m12_isRead_126 fR) n5 fb (eDr_fr hd n2 n4 rfl rfl) hc with ⟨s2, MC2, MR2, z1, z2, z3, z4, z5, z6⟩ | ⟨MC2, MR2, s2, e2, z1, z2, z3, z4, z5, z6, z7⟩
      · refine .inl ⟨s2, MC2, MR2, z1, ?_, z3, z4, z5, z6⟩
        rw [z2, zbd_s, if_pos rfl]
      · rw [z1, z2, zbd_s, if_neg (by decide), ep1]
        refine eCs_tr (ih (c + 1) s2 e2 fC fR MC2 MR2 (by omega) (by omega) (by omega) z3 z4 z5) ?_ ?_
        · rw [z6, n2 7 0 0 rfl]
        · rw [z7, n4 12 0 36 rfl]
    · rw [a2, a3, zbd_s, zbd_s, if_pos rfl, if_pos rfl]
      exact .inr ⟨MC, MR, s, e, c, fR, rfl, rfl, h, hf, hd, rfl, rfl⟩
theorem allc_e {T : Nat → Int32} {q s e : Nat} {MC0 MC : cM} {MR0 MR : rM} (h : eTP T q s e MC MR) (hf : eFr MC0 MC MR0 MR) (hd : eDr 0 MC MR) : eCs T q MC0 MC MR0 MR (m10_readConds MC) (m12_isRead_118 MR) := by
  unfold m10_readConds m12_isRead_118
  rw [show (12384743 : Int64) = eL (eWv 5) from rfl, zfu_eq]
  rcases tp_word h 5 (by omega) with ⟨a1, a2, MCa, a3, a4⟩ | ⟨a1, a2, a3⟩
  · rw [a2, a3, zbd_s, zbd_s, if_neg (by decide), r126_1]
    obtain ⟨MRb, s', e', n1, n2, n3, n4, n5⟩ := tp_pass h a4 (eH_refl (K := [])) rfl
    rw [n1, zbv_s]
    have fb := eFr_next hf n2 n3 n4
    rcases cond_e (k := m12_isRead_126 99999) n5 fb (eDr_fr hd n2 n4 rfl rfl) (by omega) with ⟨s2, MC2, MR2, z1, z2, z3, z4, z5, z6⟩ | ⟨MC2, MR2, s2, e2, z1, z2, z3, z4, z5, z6, z7⟩
    · refine .inl ⟨s2, MC2, MR2, z1, ?_, z3, z4, z5, z6⟩
      rw [z2, zbd_s, if_pos rfl]
    · rw [z1, z2, zbd_s, if_neg (by decide)]
      refine eCs_tr (conds_e 7 1 s2 e2 (99999 + 1) 99999 MC2 MR2 (by omega) (by omega) (by omega) z3 z4 z5) ?_ ?_
      · rw [z6, n2 7 0 0 rfl]
      · rw [z7, n4 12 0 36 rfl]
  · rw [a2, a3, zbd_s, zbd_s, if_pos rfl]
    exact .inr ⟨MC, MR, s, e, 0, 99999, rfl, rfl, h, hf, hd, rfl, rfl⟩
