/-- so c dd: the claim; k ticks from t on -/
def eSo (dg : Nat → Nat) (so c dd : Nat) : Nat → Nat → Bool → Bool → Bool
  | 0, _, _, is => is
  | k + 1, t, was, is => eSo dg so c dd k (t + 1) (was || decide (dg t = c)) (is || (if so = 0 then decide (dg t = c) else was && decide (dg t = dd)))
theorem eSo_t (dg : Nat → Nat) (so c dd k t : Nat) (was : Bool) : eSo dg so c dd k t was true = true := by
  induction k generalizing t was with
  | zero => rfl
  | succ k ih => unfold eSo; exact ih _ _
/-- whether the claim is so by course x -/
def eSc (d so c dd a b x : Nat) : Bool := eSo (eDg d x) so c dd (b + 1 - a) a false false
theorem so_c {d so c dd a b x : Nat} {M : cM} (h1 : cg M 4 0 1 = nI d) (hd : d ≤ 5) (hso : so ≤ 1) (hc : c < 6) (hdd : dd < 6) (hab : a ≤ b) (hb : b < d) (hx : x < 2 ^ 31) (q13 : cg M 4 0 13 = nI so) (q14 : cg M 4 0 14 = nI c) (q15 : cg M 4 0 15 = nI dd) (q16 : cg M 4 0 16 = nI a) (q17 : cg M 4 0 17 = nI b) : m4_isSo (nI x) M = some (if eSc d so c dd a b x then 1 else 0, M) := by
  unfold m4_isSo eSc
  rw [q16]
  refine eloop (σ := Bool) (fun f t was => m4_isSo_7 f (nI x) (if was then 1 else 0) (nI t) M = some (if eSo (eDg d x) so c dd (b + 1 - t) t was false then 1 else 0, M)) (fun _ _ => True) (m := b + 1) (k0 := a) (s := false) (by omega) ?_ ?_ (zfu_gt (by omega)) trivial
  · intro f was _
    simp only [m4_isSo_7, q17, eI_lt (show b < 2 ^ 31 by omega) (show b + 1 < 2 ^ 31 by omega), show (b < b + 1) = True from eq_true (by omega), Nat.sub_self, eSo, zbd_s, zbv_s, zgd_t, Bool.and_true, Bool.true_and, Bool.and_self, if_true, if_false, e_01, eq_self, Bool.false_eq_true]
  · intro f t was hat ht _ ih
    have hdl := eDg_lt d x t
    rw [show b + 1 - t = (b + 1 - (t + 1)) + 1 by omega]
    unfold eSo
    simp only [m4_isSo_7, m4_isSo_46, m4_isSo_69, m4_isSo_80, q13, q14, q15, q17, eI_lt (show b < 2 ^ 31 by omega) (show t < 2 ^ 31 by omega), show (b < t) = False from eq_false (by omega), show ((5 : Int32) ≤ nI t) = False from eq_false (by rw [show (5 : Int32) = nI 5 from rfl, eI_le (by omega) (by omega)]; omega), spot_c h1 hd (show t < d by omega) hx, eI_0 (show so < 2 ^ 31 by omega), show (nI so = 1) = (so = 1) from by rw [show (1 : Int32) = nI 1 from rfl, eI_inj (by omega) (by omega)], eI_inj (show eDg d x t < 2 ^ 31 by omega) (show c < 2 ^ 31 by omega), eI_inj (show eDg d x t < 2 ^ 31 by omega) (show dd < 2 ^ 31 by omega), ei_1, ep1, Bool.false_or, zbd_s, zbv_s, zgd_t, Bool.and_true, Bool.true_and, Bool.and_self, if_true, if_false, e_01, eq_self, Bool.false_eq_true]
    have iht := ih true trivial
    have ihw := ih was trivial
    simp only [if_true] at iht
    by_cases c0 : so = 0
    · have c1 : ¬ so = 1 := by omega
      by_cases c2 : eDg d x t = c
      · simp [c0, c2, eSo_t]
      · simp only [c0, c1, c2, if_true, if_false, decide_false, Bool.or_false, show (0 = 1) = False from eq_false (by omega)]
        rw [c0] at ihw; exact ihw
    · have c1 : so = 1 := by omega
      simp only [c0, c1, if_true, if_false, show (1 = 0) = False from eq_false (by omega)]
      rw [c1] at ihw iht
      cases was with
      | false =>
        simp only [Bool.false_and, Bool.false_or, if_true, Bool.false_eq_true, if_false] at ihw ⊢
        by_cases c2 : eDg d x t = c
        · simp only [c2, if_true, decide_true]; exact iht
        · simp only [c2, if_false, decide_false]; exact ihw
      | true =>
        simp only [Bool.true_and, Bool.true_or, reduceCtorEq, if_false, if_true] at ihw ⊢
        by_cases c3 : eDg d x t = dd
        · simp only [c3, if_true, decide_true]; simp [eSo_t]
        · simp only [c3, if_false, decide_false]
          by_cases c2 : eDg d x t = c
          · simp only [c2, if_true]; exact iht
          · simp only [c2, if_false]; exact ihw
theorem so_e {d so c dd a b x : Nat} {M : rM} (h1 : rg M 12 0 67 = nI d) (hd : d ≤ 5) (hso : so ≤ 1) (hc : c < 6) (hdd : dd < 6) (hab : a ≤ b) (hb : b < d) (hx : x < 2 ^ 31) : m12_isSo (nI x) (nI so) (nI c) (nI dd) (nI a) (nI b) M = some (if eSc d so c dd a b x then 1 else 0, M) := by
  unfold m12_isSo eSc
  refine eloop (σ := Bool × Bool) (fun f t s => m12_isSo_10 f (nI x) (nI so) (nI c) (nI dd) (nI b) (if s.1 then 1 else 0) (if s.2 then 1 else 0) (nI t) M = some (if eSo (eDg d x) so c dd (b + 1 - t) t s.1 s.2 then 1 else 0, M)) (fun _ _ => True) (m := b + 1) (k0 := a) (s := (false, false)) (by omega) ?_ ?_ (zfu_gt (by omega)) trivial
  · rintro f ⟨was, is⟩ _
    simp only [m12_isSo_10, eI_lt (show b < 2 ^ 31 by omega) (show b + 1 < 2 ^ 31 by omega), show (b < b + 1) = True from eq_true (by omega), Nat.sub_self, eSo, zbd_s, zbv_s, zgd_t, Bool.and_true, Bool.true_and, Bool.and_self, if_true, if_false, e_01, eq_self, Bool.false_eq_true]
    cases is <;> rfl
  · rintro f t ⟨was, is⟩ hat ht _ ih
    have hdl := eDg_lt d x t
    rw [show b + 1 - t = (b + 1 - (t + 1)) + 1 by omega]
    unfold eSo
    have ih' := ih (was || decide (eDg d x t = c), is || (if so = 0 then decide (eDg d x t = c) else was && decide (eDg d x t = dd))) trivial
    simp only [m12_isSo_10, m12_isSo_61, m12_isSo_79, eI_lt (show b < 2 ^ 31 by omega) (show t < 2 ^ 31 by omega), show (b < t) = False from eq_false (by omega), spot_e h1 hd (show t < d by omega) hx, eI_0 (show so < 2 ^ 31 by omega), eI_inj (show eDg d x t < 2 ^ 31 by omega) (show c < 2 ^ 31 by omega), eI_inj (show eDg d x t < 2 ^ 31 by omega) (show dd < 2 ^ 31 by omega), ei_1, ep1, zbd_s, zbv_s, zgd_t, Bool.and_true, Bool.true_and, Bool.and_self, if_true, if_false, e_01, eq_self, Bool.false_eq_true]
    rw [← ih']
    have e2 : (eDg d x t = c) = True ∨ (eDg d x t = c) = False := by
      by_cases h : eDg d x t = c
      · exact .inl (eq_true h)
      · exact .inr (eq_false h)
    have e3 : (eDg d x t = dd) = True ∨ (eDg d x t = dd) = False := by
      by_cases h : eDg d x t = dd
      · exact .inl (eq_true h)
      · exact .inr (eq_false h)
    rcases e2 with e2 | e2 <;> rcases e3 with e3 | e3 <;> by_cases c0 : so = 0 <;> cases was <;> cases is <;> simp only [e2, e3, c0, decide_true, decide_false, if_true, if_false, Bool.or_true, Bool.true_or, Bool.or_false, Bool.false_or, Bool.and_true, Bool.and_false, Bool.true_and, Bool.false_and, Bool.false_eq_true, reduceCtorEq]
theorem claim_e {n : Nat} {MC : cM} {MR : rM} {d : Nat} (d1 : 1 ≤ d) (d2 : d ≤ 5) (d3 : cg MC 4 0 1 = nI d) (d4 : rg MR 12 0 67 = nI d) (x1 x2 x3 x4 x5 : Int32) : (∃ r, r < 0 ∧ m11_refusedClaim x1 x2 x3 x4 x5 MC = some (r, MC) ∧ m12_wrongClaim x1 x2 x3 x4 x5 MR = some (r, MR)) ∨ (m11_refusedClaim x1 x2 x3 x4 x5 MC = some (0, MC) ∧ m12_wrongClaim x1 x2 x3 x4 x5 MR = some (1, MR) ∧ ∃ so c dd a b : Nat, so ≤ 1 ∧ c < 6 ∧ dd < 6 ∧ a ≤ b ∧ b < d ∧ x1 = nI so ∧ x2 = nI c ∧ x3 = nI dd ∧ x4 = nI a ∧ x5 = nI b) := by
  unfold m11_refusedClaim m12_wrongClaim
  rcases e_sp x2 with h2 | ⟨c, hc, rfl⟩
  · left
    simp only [sp_n h2, isp_n h2, zbd_s, zbv_s, zgd_t, Bool.and_true, Bool.true_and, Bool.and_self, if_true, if_false, e_01, eq_self, Bool.false_eq_true]
    exact ⟨-2, by decide, rfl, rfl⟩
  simp only [sp_y hc, isp_y hc, zbd_s, zbv_s, zgd_t, Bool.and_true, Bool.true_and, Bool.and_self, if_true, if_false, e_01, eq_self, Bool.false_eq_true]
  have tail : (x1 = 1 → ∃ dd : Nat, dd < 6 ∧ x3 = nI dd) → (∃ r, r < 0 ∧ m11_refusedClaim_30 x1 x3 x4 x5 MC = some (r, MC) ∧ m12_wrongClaim_19 x1 x3 x4 x5 MR = some (r, MR)) ∨ (m11_refusedClaim_30 x1 x3 x4 x5 MC = some (0, MC) ∧ m12_wrongClaim_19 x1 x3 x4 x5 MR = some (1, MR) ∧ ∃ so c' dd a b : Nat, so ≤ 1 ∧ c' < 6 ∧ dd < 6 ∧ a ≤ b ∧ b < d ∧ x1 = nI so ∧ nI c = nI c' ∧ x3 = nI dd ∧ x4 = nI a ∧ x5 = nI b) := by
    intro h3
    unfold m11_refusedClaim_30 m12_wrongClaim_19 m11_refusedClaim_74 m12_wrongClaim_58
    rcases (Classical.em (0 ≤ x4 ∧ x4 < nI d)).symm with h4 | h4
    · left
      simp only [tk_n d3 h4, idy_n d4 d2 h4, zbd_s, zbv_s, zgd_t, Bool.and_true, Bool.true_and, Bool.and_self, if_true, if_false, e_01, eq_self, Bool.false_eq_true]
      exact ⟨-2, by decide, rfl, rfl⟩
    obtain ⟨a, ha, rfl⟩ := eI_ofb h4.1 h4.2 (by omega)
    simp only [tk_y d3 d2 ha, idy_y d4 d2 ha, zbd_s, zbv_s, zgd_t, Bool.and_true, Bool.true_and, Bool.and_self, if_true, if_false, e_01, eq_self, Bool.false_eq_true]
    rcases (Classical.em (0 ≤ x5 ∧ x5 < nI d)).symm with h5 | h5
    · left
      simp only [tk_n d3 h5, idy_n d4 d2 h5, zbd_s, zbv_s, zgd_t, Bool.and_true, Bool.true_and, Bool.and_self, if_true, if_false, e_01, eq_self, Bool.false_eq_true]
      exact ⟨-2, by decide, rfl, rfl⟩
    obtain ⟨b, hb, rfl⟩ := eI_ofb h5.1 h5.2 (by omega)
    simp only [tk_y d3 d2 hb, idy_y d4 d2 hb, zbd_s, zbv_s, zgd_t, Bool.and_true, Bool.true_and, Bool.and_self, if_true, if_false, e_01, eq_self, Bool.false_eq_true]
    rcases (Classical.em ((0 : Int32) ≤ x1 ∧ x1 ≤ 1)).symm with h1 | h1
    · left
      simp only [out_y h1, in_n h1, zbd_s, zbv_s, zgd_t, Bool.and_true, Bool.true_and, Bool.and_self, if_true, if_false, e_01, eq_self, Bool.false_eq_true]
      exact ⟨-3, by decide, rfl, rfl⟩
    obtain ⟨so, hso, rfl⟩ := eI_ofl (b := 1) h1.1 h1.2 (by decide)
    simp only [out_n h1.1 h1.2, in_y h1.1 h1.2, eI_0 (show so < 2 ^ 31 by omega), show (nI so = 1) = (so = 1) from by rw [show (1 : Int32) = nI 1 from rfl, eI_inj (by omega) (by omega)], eI_le (show a < 2 ^ 31 by omega) (show b < 2 ^ 31 by omega), eI_lt (show b < 2 ^ 31 by omega) (show a < 2 ^ 31 by omega), zbd_s, zbv_s, zgd_t, Bool.and_true, Bool.true_and, Bool.and_self, if_true, if_false, e_01, eq_self, Bool.false_eq_true]
    have hso2 : so = 0 ∨ so = 1 := by omega
    rcases hso2 with rfl | rfl
    · simp only [show (0 = 1) = False from eq_false (by omega), zbd_s, zbv_s, zgd_t, Bool.and_true, Bool.true_and, Bool.and_self, if_true, if_false, e_01, eq_self, Bool.false_eq_true]
      by_cases hx3 : x3 = 0
      · subst hx3
        simp only [if_true]
        by_cases hab : a ≤ b
        · right
          simp only [hab, if_true, show (b < a) = False from eq_false (by omega), if_false, true_and]
          exact ⟨0, c, 0, a, b, by omega, hc, by omega, hab, hb, rfl, rfl, rfl, rfl, rfl⟩
        · left
          simp only [hab, if_false, show (b < a) = True from eq_true (by omega), if_true]
          exact ⟨-3, by decide, rfl, rfl⟩
      · left
        simp only [hx3, if_false]
        exact ⟨-3, by decide, rfl, rfl⟩
    · obtain ⟨dd, hdd, rfl⟩ := h3 rfl
      simp only [show (1 = 0) = False from eq_false (by omega), zbd_s, zbv_s, zgd_t, Bool.and_true, Bool.true_and, Bool.and_self, if_true, if_false, e_01, eq_self, Bool.false_eq_true]
      by_cases hab : a ≤ b
      · right
        simp only [hab, if_true, show (b < a) = False from eq_false (by omega), if_false, true_and]
        exact ⟨1, c, dd, a, b, by omega, hc, hdd, hab, hb, rfl, rfl, rfl, rfl, rfl⟩
      · left
        simp only [hab, if_false, show (b < a) = True from eq_true (by omega), if_true]
        exact ⟨-3, by decide, rfl, rfl⟩
  by_cases hx1 : x1 = 1
  · simp only [hx1, if_true] at tail ⊢
    rcases e_sp x3 with h3 | ⟨dd, hdd, hx3⟩
    · left
      simp only [sp_n h3, isp_n h3, zbd_s, zbv_s, zgd_t, Bool.and_true, Bool.true_and, Bool.and_self, if_true, if_false, e_01, eq_self, Bool.false_eq_true]
      exact ⟨-2, by decide, rfl, rfl⟩
    · have hs1 : m4_hasSpot x3 MC = some (1, MC) := by rw [hx3]; exact sp_y hdd MC
      have hs2 : m12_isSpot x3 MR = some (1, MR) := by rw [hx3]; exact isp_y hdd MR
      simp only [hs1, hs2, zbd_s, zbv_s, zgd_t, Bool.and_true, Bool.true_and, Bool.and_self, if_true, if_false, e_01, eq_self, Bool.false_eq_true]
      exact tail (fun _ => ⟨dd, hdd, hx3⟩)
  · simp only [hx1, if_false]
    exact tail (fun h => absurd h hx1)
theorem o_judge {n : Nat} {MC : cM} {MR : rM} (h : eRel n MC MR) (x1 x2 x3 x4 x5 : Int32) : eO n (m11_judge x1 x2 x3 x4 x5 MC) (m12_judge x1 x2 x3 x4 x5 MR) := by
  obtain ⟨m, t, hm, ht, g0, g1, g2, g3, g4, g5, g6, g7, g8, g9⟩ := h
  obtain ⟨d, d1, d2, d3, d4⟩ := g8.1
  obtain ⟨A, hA, hA6⟩ := miss_ok g0
  unfold m11_judge m12_judge
  rcases claim_e (n := n) d1 d2 d3 d4 x1 x2 x3 x4 x5 with ⟨r, hr, e1, e2⟩ | ⟨e1, e2, so, c, dd, a, b, hso, hc, hdd, hab, hb, rfl, rfl, rfl, rfl, rfl⟩
  · rw [e1, e2, zbd_s, zbd_s, if_neg (Int32.not_le.mpr hr), if_neg (fun h => by rw [h] at hr; exact absurd hr (by decide))]
    exact eO_same ⟨m, t, hm, ht, g0, g1, g2, g3, g4, g5, g6, g7, g8, g9⟩
  rw [e1, e2, zbd_s, zbd_s, if_pos (by decide), if_pos rfl]
  obtain ⟨M1, hM1⟩ : ∃ X, X = cs (cs (cs (cs (cs MC 4 0 13 (nI so)) 4 0 14 (nI c)) 4 0 15 (nI dd)) 4 0 16 (nI a)) 4 0 17 (nI b) := ⟨_, rfl⟩
  have hcl : m4_claim (nI so) (nI c) (nI dd) (nI a) (nI b) MC = some M1 := by rw [hM1]; rfl
  have f1 : eF [10413, 10414, 10415, 10416, 10417] MC M1 := by rw [hM1]; exact (by repeat (first | exact eF_refl | refine eF_cs ?_ rfl))
  have p1 : M1.2 = MC.2 := by rw [hM1]; rfl
  have g0' : eG0 m t M1 MR := eG0_fr g0 f1 (eH_refl (K := [])) rfl rfl
  have g8' : eG8 M1 MR := eG8_fr g8 f1 (eH_refl (K := [])) (by unfold cp; rw [p1]; exact ⟨rfl, rfl⟩) rfl rfl
  have d3' : cg M1 4 0 1 = nI d := by rw [f1 4 0 1 rfl, d3]
  obtain ⟨MC', c1, c2, c3, c4⟩ := list_c g0' g8' d3' d1 d2 hA hA6
  obtain ⟨MR', r1, r2, r3, r4⟩ := find_e (w := rg MR 12 0 71) g8 d4 d1 d2 hA hA6
  have hp : 6 ^ d ≤ 6 ^ 5 := Nat.pow_le_pow_right (by decide) d2
  have hp5 : (6 : Nat) ^ 5 = 7776 := by decide
  have hln := eLs_len (eQ MR (rg MR 12 0 71) A d) (6 ^ d)
  obtain ⟨L, hL⟩ : ∃ L, L = eLs (eQ MR (rg MR 12 0 71) A d) (6 ^ d) := ⟨_, rfl⟩
  have r3' : rg MR' 12 0 72 = nI L.length := by rw [hL]; exact r3
  have r4' : eArR MR' 1373 L := by rw [hL]; exact r4
  rw [← hL] at c1 c4 hln
  have hend : ∀ r, eO n (some (r, MC')) (some (r, MR')) := fun r => eO_fin rfl (eRel_fr hm ht g0 g1 g2 g3 g4 g5 g6 g7 g8 g9 (eF_trans (eF_mono f1 rfl : eF [10413, 10414, 10415, 10416, 10417, 506, 510, 511] MC M1) (eF_mono c2 rfl)) r2 (by rw [c3, p1]) rfl rfl)
  have h1' : cg MC' 4 0 1 = nI d := by rw [c2 4 0 1 rfl, d3']
  have h67' : rg MR' 12 0 67 = nI d := by rw [r2 12 0 67 rfl, d4]
  have q13 : cg MC' 4 0 13 = nI so := by rw [c2 4 0 13 rfl, hM1]; rfl
  have q14 : cg MC' 4 0 14 = nI c := by rw [c2 4 0 14 rfl, hM1]; rfl
  have q15 : cg MC' 4 0 15 = nI dd := by rw [c2 4 0 15 rfl, hM1]; rfl
  have q16 : cg MC' 4 0 16 = nI a := by rw [c2 4 0 16 rfl, hM1]; rfl
  have q17 : cg MC' 4 0 17 = nI b := by rw [c2 4 0 17 rfl, hM1]; rfl
  unfold m4_verdict
  rw [hcl, zbv_s, c1, zbd_s, r1, zbv_s]
  refine eloop (σ := Nat) (fun f i y => eO n (zbd (m4_verdict_12 f (nI L.length) (if 0 < y then 1 else 0) (if y < i then 1 else 0) (nI i) MC') (fun r3 M3 => some (r3, M3))) (m12_judge_36 f (nI so) (nI c) (nI dd) (nI a) (nI b) (nI y) (nI i) MR')) (fun i y => y ≤ i) (m := L.length) (k0 := 0) (s := 0) (Nat.zero_le _) ?_ ?_ (zfu_gt (by omega)) (Nat.le_refl _)
  · intro f y hy
    simp only [m4_verdict_12, m4_verdict_53, m4_verdict_63, m12_judge_36, r3', eI_le (show L.length < 2 ^ 31 by omega) (show L.length < 2 ^ 31 by omega), Nat.le_refl, eI_0 (show L.length < 2 ^ 31 by omega), eI_0 (show y < 2 ^ 31 by omega), eI_inj (show y < 2 ^ 31 by omega) (show L.length < 2 ^ 31 by omega), zbd_s, zbv_s, zgd_t, Bool.and_true, Bool.true_and, Bool.and_self, if_true, if_false, e_01, eq_self, Bool.false_eq_true]
    by_cases c0 : y = 0
    · by_cases c1 : L.length = 0
      · simp only [c0, c1, zbd_s, zbv_s, zgd_t, Bool.and_true, Bool.true_and, Bool.and_self, if_true, if_false, e_01, eq_self, Bool.false_eq_true, show (0 < 0) = False from eq_false (by omega)]; exact hend _
      · simp only [c0, c1, zbd_s, zbv_s, zgd_t, Bool.and_true, Bool.true_and, Bool.and_self, if_true, if_false, e_01, eq_self, Bool.false_eq_true, show (0 < 0) = False from eq_false (by omega), show (0 < L.length) = True from eq_true (by omega), show (0 = L.length) = False from eq_false (by omega)]; exact hend _
    · by_cases c1 : y = L.length
      · simp only [c1, show (L.length = 0) = False from eq_false (by omega), zbd_s, zbv_s, zgd_t, Bool.and_true, Bool.true_and, Bool.and_self, if_true, if_false, e_01, eq_self, Bool.false_eq_true, show (L.length < L.length) = False from eq_false (by omega), show (0 < L.length) = True from eq_true (by omega)]; exact hend _
      · simp only [c0, c1, show (L.length = 0) = False from eq_false (by omega), zbd_s, zbv_s, zgd_t, Bool.and_true, Bool.true_and, Bool.and_self, if_true, if_false, e_01, eq_self, Bool.false_eq_true, show (y < L.length) = True from eq_true (by omega), show (0 < y) = True from eq_true (by omega)]; exact hend _
  · intro f i y _ hi hy ih
    obtain ⟨x, hx⟩ : ∃ x, L[i]? = some x := ⟨_, List.getElem?_eq_getElem hi⟩
    have hmem := List.mem_of_getElem? hx
    rw [hL] at hmem
    have hxl := (eLs_mem hmem).1
    have hv1 : cg MC' 510 0 i = nI x := c4 i x hx
    have hv2 : rg MR' 1373 0 i = nI x := r4' i x hx
    simp only [m4_verdict_12, m4_verdict_47, m12_judge_36, m12_judge_73, r3', eI_le (show L.length < 2 ^ 31 by omega) (show i < 2 ^ 31 by omega), show (L.length ≤ i) = False from eq_false (by omega), show ((7776 : Int32) ≤ nI i) = False from eq_false (by rw [show (7776 : Int32) = nI 7776 from rfl, eI_le (by omega) (by omega)]; omega), ezin_nI (show i < 7776 by omega) (show 7776 < 2 ^ 31 by decide), ex_nI (show i < 2 ^ 31 by omega), hv1, hv2, so_c h1' d2 hso hc hdd hab hb (show x < 2 ^ 31 by omega) q13 q14 q15 q16 q17, so_e h67' d2 hso hc hdd hab hb (show x < 2 ^ 31 by omega), ei_1, ep1, zbd_s, zbv_s, zgd_t, Bool.and_true, Bool.true_and, Bool.and_self, if_true, if_false, e_01, eq_self, Bool.false_eq_true]
    cases eSc d so c dd a b x with
    | false =>
      have := ih y (by omega)
      simp only [if_true, Int32.add_zero]
      rw [show (if y < i + 1 then (1 : Int32) else 0) = 1 from if_pos (by omega)] at this
      exact this
    | true =>
      have := ih (y + 1) (by omega)
      simp only [reduceCtorEq, if_false, ep1]
      rw [show (if 0 < y + 1 then (1 : Int32) else 0) = 1 from if_pos (by omega), show (if y + 1 < i + 1 then (1 : Int32) else 0) = (if y < i then 1 else 0) by by_cases h : y < i <;> simp [h]] at this
      exact this
