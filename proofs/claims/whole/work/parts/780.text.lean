/-! conditions -/
theorem addc_c {MC : cM} {c : Nat} {x1 x2 v : Int32} (h : cg MC 7 0 2 = nI c) (hc : c < 8) (hx1 : x1 = 0 ∨ x1 = 1) (hx2 : x2 = 0 ∨ x2 = 1) : ∃ MC', m7_addCond 0 x1 x2 v MC = some MC' ∧ eF [803, 804, 805, 10702] MC MC' ∧ MC'.2 = MC.2 ∧ cg MC' 7 0 2 = nI (c + 1) ∧ (cg MC' 803 0 c = x1 ∧ cg MC' 804 0 c = x2 ∧ cg MC' 805 0 c = v) ∧ ∀ k, k < c → cg MC' 803 0 k = cg MC 803 0 k ∧ cg MC' 804 0 k = cg MC 804 0 k ∧ cg MC' 805 0 k = cg MC 805 0 k := by
  have n1 : vp_nar .boolean x1 = x1 := by rcases hx1 with rfl | rfl <;> rfl
  have n2 : vp_nar .boolean x2 = x2 := by rcases hx2 with rfl | rfl <;> rfl
  have t0 : ∀ k i s v, k ≠ 7 → cg (cs MC k i s v) 7 0 2 = nI c := fun k i s v hk => by rw [cg_cs, if_neg (by omega), h]
  have b0 : Nat.blt 0 2 = true := rfl
  have hz := ezin_nI (show c < 8 by omega) (show 8 < 2 ^ 31 by decide)
  have hx := ex_nI (show c < 2 ^ 31 by omega)
  have u1 : cg (cs MC 803 0 c x1) 7 0 2 = nI c := by rw [cg_cs, if_neg (by omega), h]
  have u2 : cg (cs (cs MC 803 0 c x1) 804 0 c x2) 7 0 2 = nI c := by rw [cg_cs, if_neg (by omega), u1]
  have u3 : cg (cs (cs (cs MC 803 0 c x1) 804 0 c x2) 805 0 c v) 7 0 2 = nI c := by rw [cg_cs, if_neg (by omega), u2]
  refine ⟨cs (cs (cs (cs MC 803 0 c x1) 804 0 c x2) 805 0 c v) 7 0 2 (nI (c + 1)), ?_, (by repeat (first | exact eF_refl | refine eF_cs ?_ rfl)), rfl, rfl, ⟨by simp [cg_cs], by simp [cg_cs], by simp [cg_cs]⟩, fun k hk => ⟨?_, ?_, ?_⟩⟩
  · simp only [m7_addCond, m7_addCond_38, m7_takesMoreConds, b0, h, n1, n2, show ((8 : Int32) ≤ nI c) = False from eq_false (by rw [show (8 : Int32) = nI 8 from rfl, eI_le (by omega) (by omega)]; omega), hz, hx, u1, u2, u3, ep1, zbd_s, zbv_s, zgd_t, Bool.and_true, Bool.true_and, Bool.and_self, if_true, if_false, e_01, eq_self, Bool.false_eq_true, show ((1 : Int32) = 0) = False from eq_false (by decide)]
  all_goals
    rw [cg_cs, if_neg (by omega), cg_cs]
    try rw [if_neg (by omega)]
    try rw [cg_cs]
    try rw [if_neg (by omega)]
    try rw [cg_cs]
    try rw [if_neg (by omega)]
def condK (k : Int32 → rM → Option (Int32 × rM)) (M32 : rM) : Option (Int32 × rM) := zbd (m12_isWord (1111 : Int64) M32) (fun r33 M33 => (if r33 = 0 then m12_isRead_316 k (0 : Int32) M33 else (if (8 : Int32) ≤ (rg M33 12 0 38) then m12_isRead_316 k (0 : Int32) M33 else m12_isRead_316 k (1 : Int32) M33)))
def condR (k : Int32 → rM → Option (Int32 × rM)) (M21 : rM) : Option (Int32 × rM) := zbd (m12_isWord (247702 : Int64) M21) (fun r22 M22 => (if r22 = 0 then zbd (m12_isWord (1887 : Int64) M22) (fun r46 M46 => (if r46 = 0 then zbd (m12_fails M46) (fun r47 M47 => zgd (zbl r47) (some (r47, M47))) else m12_isRead_159 k M46)) else m12_isRead_159 k M22))
def eCn (k : Int32 → rM → Option (Int32 × rM)) (T : Nat → Int32) (q c : Nat) (MC0 MC : cM) (MR0 MR : rM) (oC : Option (Int32 × cM)) (oR : Option (Int32 × rM)) : Prop := eSt MC0 MR0 oC oR ∨ ∃ MC' MR' s e, oC = some (1, MC') ∧ oR = condK k MR' ∧ eTP T q s e MC' MR' ∧ eFr MC0 MC' MR0 MR' ∧ eDr (c + 1) MC' MR' ∧ cg MC' 7 0 0 = cg MC 7 0 0 ∧ rg MR' 12 0 36 = rg MR 12 0 36
theorem cd_fr {MC MC' : cM} {MR MR' : rM} {k : Nat} (h : eCd 0 1339 k MC MR) (hC : cg MC' 803 0 k = cg MC 803 0 k ∧ cg MC' 804 0 k = cg MC 804 0 k ∧ cg MC' 805 0 k = cg MC 805 0 k) (hR : ∀ j, j < 3 * k + 3 → rg MR' 1339 0 j = rg MR 1339 0 j) : eCd 0 1339 k MC' MR' := by
  unfold eCd at *
  rw [hC.1, hC.2.1, hC.2.2, hR (3 * k) (by omega), hR (3 * k + 1) (by omega), hR (3 * k + 2) (by omega)]
  exact h
theorem c241 {k : Int32 → rM → Option (Int32 × rM)} {T : Nat → Int32} {q s e c : Nat} {x1 x2 t1 t2 : Int32} {MC0 MC MCn : cM} {MR0 MR : rM} (h : eTP T q s e MC MR) (hf : eFr MC0 MC MR0 MR) (hd : eDr c MC MR) (hc : c < 8) (hn : m10_nextToken MC = some MCn) (h1 : rg MR 1339 0 (3 * c) = t1) (ht1 : t1 = 0 ∧ x1 = 0 ∨ t1 = 1 ∧ x1 = 1) (ht2 : t2 = 0 ∧ x2 = 1 ∨ t2 = 1 ∧ x2 = 0) : eCn k T q c MC0 MC MR0 MR (m10_readCond_44 x1 x2 MCn) (m12_isRead_241 k (nI (3 * c + 1)) t2 MR) := by
  obtain ⟨d1, d2, d3, d4⟩ := hd
  obtain ⟨MR1, hR1⟩ : ∃ N, N = rs MR 1339 0 (3 * c + 1) t2 := ⟨_, rfl⟩
  have f1 : eH [1339] MR MR1 := by rw [hR1]; exact eH_rs eH_refl rfl
  obtain ⟨MR', s', e', n1, n2, n3, n4, n5⟩ := tp_pass h hn f1 rfl
  have fall : eFr MC0 MCn MR0 MR' := ⟨eF_trans hf.1 (eF_mono n2 rfl), n3.trans hf.2.1, eH_trans hf.2.2 (eH_trans (eH_mono f1 rfl) (eH_mono n4 rfl))⟩
  have r38 : rg MR' 12 0 38 = nI c := by rw [n4 12 0 38 rfl, f1 12 0 38 rfl, d3]
  have c2 : cg MCn 7 0 2 = nI c := by rw [n2 7 0 2 rfl, d2]
  obtain ⟨hC, hR, h2, h3, hk, a1, a2, a3, a4, a5⟩ := n5
  obtain ⟨nm1, nm2⟩ := num_c hC a1 a2 a3 a4 a5 h2 h3
  obtain ⟨nr1, nr2⟩ := num_e (lo := 0) (hi := 99) hC.1 a1 a2 a4 (by omega) (by omega) hk nm2
  have n5 : eTP T q s' e' MCn MR' := ⟨hC, hR, h2, h3, hk, a1, a2, a3, a4, a5⟩
  unfold m12_isRead_241 m10_readCond_44
  rw [ezin_nI (show 3 * c + 1 < 24 by omega) (by decide), Bool.and_true, zgd_t, ex_nI (show 3 * c + 1 < 2 ^ 31 by omega), ← hR1, n1, zbv_s, nm1, zbd_s, show (0 : Int32) = nI 0 from rfl, show (99 : Int32) = nI 99 from rfl, nr1]
  cases hN : eNb T q s' e' with
  | none =>
    refine .inl ?_
    rw [if_pos (by rfl)]
    dsimp only
    rw [zbd_s, if_pos (by rfl)]
    exact fails_e n5 fall
  | some v =>
    have hv := nm2 v hN
    have hr := nr2 v hN
    have i0 : (eBI (some v)) = nI v := rfl
    have i1 : ¬ nI v = -1 := fun h => by
      have h2 : (0 : Int32) ≤ nI v := by rw [show (0 : Int32) = nI 0 from rfl, eI_le (by omega) (by omega)]; omega
      rw [h] at h2; exact absurd h2 (by decide)
    rw [i0, if_neg i1]
    dsimp only
    rw [if_pos (show 0 ≤ v ∧ v ≤ 99 by omega), zbd_s, if_neg (show ¬ (1 : Int32) = nI 0 by decide), r38, hr, show (3 : Int32) * nI c + 2 = nI (3 * c + 2) from by rw [show (3 : Int32) = nI 3 from rfl, show (2 : Int32) = nI 2 from rfl, eI_mul, eI_add], ezin_nI (show 3 * c + 2 < 24 by omega) (by decide), Bool.and_true, zgd_t, ex_nI (show 3 * c + 2 < 2 ^ 31 by omega)]
    obtain ⟨MCa, p1, p2, p3, p4, p5, p6⟩ := addc_c (v := nI v) c2 hc (show x1 = 0 ∨ x1 = 1 by rcases ht1 with ⟨-, h⟩ | ⟨-, h⟩; exact .inl h; exact .inr h) (show x2 = 0 ∨ x2 = 1 by rcases ht2 with ⟨-, h⟩ | ⟨-, h⟩; exact .inr h; exact .inl h)
    rw [p1, zbv_s]
    rw [show rg (rs MR' 1339 0 (3 * c + 2) (nI v)) 12 0 38 = nI c from r38, ep1]
    obtain ⟨MRa, hRa⟩ : ∃ N, N = rs (rs MR' 1339 0 (3 * c + 2) (nI v)) 12 0 38 (nI (c + 1)) := ⟨_, rfl⟩
    have f2 : eH [1339, 11238] MR' MRa := by rw [hRa]; exact (by repeat (first | exact eH_refl | refine eH_rs ?_ rfl | refine eH_rsl ?_))
    have ta : eTP T q s' e' MCa MRa := tp_fr n5 p2 f2 (by rw [hRa]; rfl) rfl rfl
    obtain ⟨MCb, MRb, s2, e2, q1, q2, q3, q4, q5, q6⟩ := tp_next ta.1 ta.2.1 ta.2.2.2.2.2.2.1 ta.2.2.2.1 ta.2.2.2.2.1.1
    rw [← hRa, q1, zbv_s, q2, zbv_s]
    have fb : eFr MC0 MCb MR0 MRb := ⟨eF_trans fall.1 (eF_trans (eF_mono p2 rfl) (eF_mono q3 rfl)), by rw [q4, p3]; exact fall.2.1, eH_trans fall.2.2 (eH_trans (eH_mono f2 rfl) (eH_mono q5 rfl))⟩
    refine .inr ⟨MCb, MRb, s2, e2, rfl, rfl, q6, fb, ⟨by omega, by rw [q3 7 0 2 rfl, p4], by rw [q5 12 0 38 rfl, hRa]; rfl, ?_⟩, by rw [q3 7 0 0 rfl, p2 7 0 0 rfl, n2 7 0 0 rfl], by rw [q5 12 0 36 rfl, f2 12 0 36 rfl, n4 12 0 36 rfl, f1 12 0 36 rfl]⟩
    intro k' hk'
    by_cases hkc : k' = c
    · subst hkc
      have w0 : rg MRb 1339 0 (3 * k') = t1 := by
        rw [q5 1339 0 _ rfl, hRa, rg_rs, if_neg (by omega), rg_rs, if_neg (by omega), n4 1339 0 _ rfl, hR1, rg_rs, if_neg (by omega), h1]
      have w1 : rg MRb 1339 0 (3 * k' + 1) = t2 := by
        rw [q5 1339 0 _ rfl, hRa, rg_rs, if_neg (by omega), rg_rs, if_neg (by omega), n4 1339 0 _ rfl, hR1, rg_rs, if_pos ⟨rfl, rfl, rfl⟩]
      have w2 : rg MRb 1339 0 (3 * k' + 2) = nI v := by
        rw [q5 1339 0 _ rfl, hRa, rg_rs, if_neg (by omega), rg_rs, if_pos ⟨rfl, rfl, rfl⟩]
      unfold eCd
      rw [w0, w1, w2, q3 803 0 k' rfl, q3 804 0 k' rfl, q3 805 0 k' rfl, p5.1, p5.2.1, p5.2.2]
      exact ⟨ht1, ht2, rfl⟩
    · have hkc : k' < c := by omega
      refine cd_fr (d4 k' hkc) ?_ ?_
      · obtain ⟨z1, z2, z3⟩ := p6 k' hkc
        rw [q3 803 0 k' rfl, q3 804 0 k' rfl, q3 805 0 k' rfl, z1, z2, z3, n2 803 0 k' rfl, n2 804 0 k' rfl, n2 805 0 k' rfl]
        exact ⟨rfl, rfl, rfl⟩
      · intro j hj
        rw [q5 1339 0 _ rfl, hRa, rg_rs, if_neg (by omega), rg_rs, if_neg (by omega), n4 1339 0 _ rfl, hR1, rg_rs, if_neg (by omega)]
