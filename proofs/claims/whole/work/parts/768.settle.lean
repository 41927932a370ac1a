theorem three {w : Int32} {r : Nat} (hr : r < 16) : (zshr w (nI (2 * r)) &&& 3 = 3) = (eb w (2 * r) = true ∧ eb w (2 * r + 1) = true) := by
  have e3 : ∀ j : Nat, j < 32 → eb 3 j = decide (j < 2) := by decide +kernel
  refine propext ⟨fun h => ?_, fun h => ?_⟩
  · have h0 := congrArg (fun x => eb x 0) h
    have h1 := congrArg (fun x => eb x 1) h
    simp only [eb_and, zshr_bit (show 2 * r < 32 by omega) w 0 (by omega), zshr_bit (show 2 * r < 32 by omega) w 1 (by omega), e3 0 (by decide), e3 1 (by decide)] at h0 h1
    rw [Nat.zero_add] at h0
    rw [Nat.add_comm] at h1
    exact ⟨by simpa using h0, by simpa using h1⟩
  · refine eb_ext (fun j hj => ?_)
    rw [eb_and, e3 j hj]
    by_cases hj2 : j < 2
    · have hj01 : j = 0 ∨ j = 1 := by omega
      rcases hj01 with rfl | rfl
      · rw [zshr_bit (show 2 * r < 32 by omega) w 0 (by omega), Nat.zero_add, h.1]; rfl
      · rw [zshr_bit (show 2 * r < 32 by omega) w 1 (by omega), Nat.add_comm, h.2]; rfl
    · rw [decide_eq_false hj2, Bool.and_false]
def eB1 (v : Bool) : Nat := if v then 1 else 0
theorem eb_put {w : Int32} {r j : Nat} (hr : r < 16) (v : Bool) : eb (w ||| zshl (nI (1 + eB1 v)) (nI (2 * r))) j = (eb w j || decide (j = 2 * r + eB1 v)) := by
  have e : (1 + eB1 v) * 2 ^ (2 * r) = 2 ^ (2 * r + eB1 v) := by
    cases v
    · show (1 + 0) * 2 ^ (2 * r) = 2 ^ (2 * r + 0); rw [Nat.add_zero, Nat.add_zero, Nat.one_mul]
    · show (1 + 1) * 2 ^ (2 * r) = 2 ^ (2 * r + 1); rw [Nat.pow_succ, Nat.mul_comm]
  have hb : eB1 v ≤ 1 := by unfold eB1; split <;> omega
  have hlt : 2 ^ (2 * r + eB1 v) < 2 ^ 32 := Nat.pow_lt_pow_right (by decide) (by omega)
  rw [eb_or, eI_shl _ (show 2 * r < 32 by omega), e, eb_nI _ _ hlt, Nat.testBit_two_pow]
  congr 1
  rw [decide_eq_decide]; exact eq_comm
theorem fill512 (M0 : cM) : ∃ M, mJ7_fill_512 0 M0 = some M ∧ eF [512] M0 M ∧ M.2 = M0.2 ∧ ∀ j, j < 487 → cg M 512 0 j = 0 := by
  unfold mJ7_fill_512
  refine eloop (σ := cM) (fun f k M => ∃ M', mJ7_fill_512_5 f 0 (nI k) 487 M = some M' ∧ eF [512] M0 M' ∧ M'.2 = M0.2 ∧ ∀ j, j < 487 → cg M' 512 0 j = 0) (fun k M => eF [512] M0 M ∧ M.2 = M0.2 ∧ ∀ j, j < k → cg M 512 0 j = 0) (m := 487) (k0 := 0) (by omega) ?_ ?_ (zfu_gt (by omega)) ⟨eF_refl, rfl, fun j hj => absurd hj (by omega)⟩
  · rintro f M hI
    simp only [mJ7_fill_512_5, show ((487 : Int32) ≤ nI 487) = True from eq_true (by decide), zbd_s, zbv_s, zgd_t, Bool.and_true, Bool.true_and, Bool.and_self, if_true, if_false, e_01, eq_self, Bool.false_eq_true]
    exact ⟨M, rfl, hI⟩
  · rintro f k M _ hk ⟨h1, h2, h3⟩ ih
    simp only [mJ7_fill_512_5, show ((487 : Int32) ≤ nI k) = False from eq_false (by rw [show (487 : Int32) = nI 487 from rfl, eI_le (by omega) (by omega)]; omega), ezin_nI (show k < 487 by omega) (show 487 < 2 ^ 31 by decide), ex_nI (show k < 2 ^ 31 by omega), ep1, zbd_s, zbv_s, zgd_t, Bool.and_true, Bool.true_and, Bool.and_self, if_true, if_false, e_01, eq_self, Bool.false_eq_true]
    refine ih _ ⟨eF_cs h1 rfl, h2, fun j hj => ?_⟩
    have := h3 j
    simp only [cg_cs]; grind
theorem settled_c {d st : Nat} {MC0 : cM} {MR : rM} {L : List Nat} {ps : Nat → Nat} {ss : Nat → Bool} (g8 : eG8 MC0 MR) (h1 : cg MC0 4 0 1 = nI d) (hd : d ≤ 5) (hst : st < 64) (hL : ∀ i x, L[i]? = some x → x < 7776 ∧ cg MC0 510 0 i = nI (2 * x + eB1 (ss i)) ∧ ps i = ePl MR st (eDg d x) d) (hlen : L.length ≤ 7776) : ∃ MC', m4_isSettledBy (nI st) (nI L.length) MC0 = some (if eStl ps ss L.length then 1 else 0, MC') ∧ eF [507, 512] MC0 MC' ∧ MC'.2 = MC0.2 := by
  have hp : 6 ^ d ≤ 6 ^ 5 := Nat.pow_le_pow_right (by decide) hd
  have hp5 : (6 : Nat) ^ 5 = 7776 := by decide
  obtain ⟨M1, e1, f1, p1, q1⟩ := match_c g8 h1 hd hst
  obtain ⟨M2, e2, f2, p2, q2⟩ := fill512 M1
  unfold m4_isSettledBy
  rw [e1, zbv_s, e2, zbv_s]
  refine eloop (σ := cM) (fun f i M => ∃ MC', m4_isSettledBy_15 f (nI L.length) (nI i) M = some (if eStl ps ss L.length then 1 else 0, MC') ∧ eF [507, 512] MC0 MC' ∧ MC'.2 = MC0.2) (fun i M => eF [512] M2 M ∧ M.2 = MC0.2 ∧ (∀ p v, p < 7776 → (eb (cg M 512 0 (p / 16)) (2 * (p % 16) + eB1 v) = true ↔ ∃ k, k < i ∧ ps k = p ∧ ss k = v)) ∧ ∀ k j, k < i → j < i → ps k = ps j → ss k = ss j) (m := L.length) (k0 := 0) (Nat.zero_le _) ?_ ?_ (zfu_gt (by omega)) ⟨eF_refl, by rw [p2, p1], fun p v hp => ?_, fun k j hk => absurd hk (by omega)⟩
  · rintro f M ⟨i1, i2, i3, i4⟩
    simp only [m4_isSettledBy_15, eI_le (show L.length < 2 ^ 31 by omega) (show L.length < 2 ^ 31 by omega), Nat.le_refl, zbd_s, zbv_s, zgd_t, Bool.and_true, Bool.true_and, Bool.and_self, if_true, if_false, e_01, eq_self, Bool.false_eq_true]
    exact ⟨M, by rw [eStl_t i4]; rfl, eF_trans (eF_mono f1 rfl) (eF_trans (eF_mono f2 rfl) (eF_mono i1 rfl)), i2⟩
  · rintro f i M _ hi ⟨i1, i2, i3, i4⟩ ih
    obtain ⟨x, hx⟩ : ∃ x, L[i]? = some x := ⟨_, List.getElem?_eq_getElem hi⟩
    obtain ⟨x1, x2, x3⟩ := hL i x hx
    have hF : eF [507, 512] MC0 M := eF_trans (eF_mono f1 rfl) (eF_trans (eF_mono f2 rfl) (eF_mono i1 rfl))
    have h1' : cg M 4 0 1 = nI d := by rw [hF 4 0 1 rfl, h1]
    have hfd : cg M 510 0 i = nI (2 * x + eB1 (ss i)) := by rw [hF 510 0 i rfl, x2]
    have hb1 : eB1 (ss i) < 2 := by unfold eB1; split <;> omega
    have hpl := ePl_ok MR st (eDg d x) (eDg_lt d x) d
    rw [← x3] at hpl
    have hplc : m4_heardPlace (nI x) M = some (nI (ps i), M) := by
      rw [place_c h1' hd (show x < 2 ^ 31 by omega) (fun t s ht hs => by rw [i1 507 0 _ rfl, f2 507 0 _ rfl]; exact q1 t s ht hs), ← x3]
    have hdiv : nI (ps i) / 16 = nI (ps i / 16) := eI_div (show ps i < 2 ^ 31 by omega) (by decide)
    have hrem : zrem (nI (ps i)) 16 = nI (ps i % 16) := zrem_nI (show ps i < 2 ^ 31 by omega) (by decide) (by decide)
    have hone : (1 : Int32) + nI (eB1 (ss i)) = nI (1 + eB1 (ss i)) := eI_add 1 _
    have htwo : (2 : Int32) * nI (ps i % 16) = nI (2 * (ps i % 16)) := eI_mul 2 _
    obtain ⟨w, hw⟩ : ∃ w, w = cg M 512 0 (ps i / 16) ||| zshl (nI (1 + eB1 (ss i))) (nI (2 * (ps i % 16))) := ⟨_, rfl⟩
    have hrd : cg (cs M 512 0 (ps i / 16) w) 512 0 (ps i / 16) = w := by simp [cg_cs]
    have hr16 : ps i % 16 < 16 := Nat.mod_lt _ (by decide)
    have hbits : ∀ p v, p < 7776 → (eb (cg (cs M 512 0 (ps i / 16) w) 512 0 (p / 16)) (2 * (p % 16) + eB1 v) = true ↔ ∃ k, k < i + 1 ∧ ps k = p ∧ ss k = v) := by
      intro p v hp
      have hold := i3 p v hp
      have hbv : eB1 v ≤ 1 := by unfold eB1; split <;> omega
      have hbs : eB1 (ss i) = eB1 v ↔ ss i = v := by cases h1 : ss i <;> cases h2 : v <;> simp [eB1]
      by_cases hpq : p / 16 = ps i / 16
      · rw [cg_cs, if_pos ⟨rfl, rfl, hpq⟩, hw, eb_put hr16, Bool.or_eq_true, ← hpq, hold, decide_eq_true_eq]
        constructor
        · rintro (⟨k, k1, k2⟩ | h)
          · exact ⟨k, by omega, k2⟩
          · exact ⟨i, by omega, by omega, hbs.mp (by omega)⟩
        · rintro ⟨k, k1, k2, k3⟩
          by_cases hki : k = i
          · subst hki; right; have := hbs.mpr k3; omega
          · exact .inl ⟨k, by omega, k2, k3⟩
      · rw [cg_cs, if_neg (by omega), hold]
        constructor
        · rintro ⟨k, k1, k2⟩; exact ⟨k, by omega, k2⟩
        · rintro ⟨k, k1, k2, k3⟩
          by_cases hki : k = i
          · subst hki; exact absurd (by rw [k2]) hpq
          · exact ⟨k, by omega, k2, k3⟩
    have hbf := hbits (ps i) false (by omega)
    have hbt := hbits (ps i) true (by omega)
    rw [hrd] at hbf hbt
    simp only [m4_isSettledBy_15, m4_isSettledBy_113, eI_le (show L.length < 2 ^ 31 by omega) (show i < 2 ^ 31 by omega), show (L.length ≤ i) = False from eq_false (by omega), show ((7776 : Int32) ≤ nI i) = False from eq_false (by rw [show (7776 : Int32) = nI 7776 from rfl, eI_le (by omega) (by omega)]; omega), ezin_nI (show i < 7776 by omega) (show 7776 < 2 ^ 31 by decide), ex_nI (show i < 2 ^ 31 by omega), hfd, hi2 hb1 (show 2 * x + eB1 (ss i) < 2 ^ 31 by omega), lo2 hb1, hplc, show (nI (ps i) < 0) = False from eq_false (by rw [show (0 : Int32) = nI 0 from rfl, eI_lt (by omega) (by omega)]; omega), show (nI (ps i) < 7776) = True from eq_true (by rw [show (7776 : Int32) = nI 7776 from rfl, eI_lt (by omega) (by omega)]; omega), show znz 16 = true from rfl, hdiv, hrem, hone, htwo, ezin_nI (show ps i / 16 < 487 by omega) (show 487 < 2 ^ 31 by decide), ex_nI (show ps i / 16 < 2 ^ 31 by omega), ← hw, hrd, three hr16, ep1, zbd_s, zbv_s, zgd_t, Bool.and_true, Bool.true_and, Bool.and_self, if_true, if_false, e_01, eq_self, Bool.false_eq_true]
    by_cases hboth : eb w (2 * (ps i % 16)) = true ∧ eb w (2 * (ps i % 16) + 1) = true
    · obtain ⟨k, k1, k2, k3⟩ := hbf.mp hboth.1
      obtain ⟨j, j1, j2, j3⟩ := hbt.mp hboth.2
      have := eStl_f (vs := ps) (ss := ss) (n := L.length) (k := k) (j := j) (by omega) (by omega) (by rw [k2, j2]) (by rw [k3, j3]; decide)
      rw [this]
      simp only [hboth, and_self, if_true]
      exact ⟨_, rfl, eF_cs hF rfl, i2⟩
    · simp only [hboth, if_false]
      refine ih _ ⟨eF_cs i1 rfl, i2, hbits, fun k j hk hj hkj => ?_⟩
      have hno : ∀ k, k < i → ps k = ps i → ss k = ss i := by
        intro k hk hkp
        apply Classical.byContradiction
        intro hne
        apply hboth
        cases hs : ss i with
        | false =>
          have hk2 : ss k = true := by rw [hs] at hne; simpa using hne
          exact ⟨hbf.mpr ⟨i, by omega, rfl, hs⟩, hbt.mpr ⟨k, by omega, hkp, hk2⟩⟩
        | true =>
          have hk2 : ss k = false := by rw [hs] at hne; simpa using hne
          exact ⟨hbf.mpr ⟨k, by omega, hkp, hk2⟩, hbt.mpr ⟨i, by omega, rfl, hs⟩⟩
      by_cases hki : k = i
      · by_cases hji : j = i
        · rw [hki, hji]
        · rw [hki]; rw [hki] at hkj; exact (hno j (by omega) hkj.symm).symm
      · by_cases hji : j = i
        · rw [hji]; rw [hji] at hkj; exact hno k (by omega) hkj
        · exact i4 k j (by omega) (by omega) hkj
  · rw [q2 _ (by omega), eb_0]
    constructor
    · intro h; cases h
    · rintro ⟨k, k1, _⟩; omega
