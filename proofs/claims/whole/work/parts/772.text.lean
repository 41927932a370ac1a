def eL (n : Nat) : Int64 := Int64.ofNat n
theorem eL_add (a b : Nat) : eL a + eL b = eL (a + b) := by unfold eL; exact (Int64.ofNat_add a b).symm
theorem eL_mul (a b : Nat) : eL a * eL b = eL (a * b) := by unfold eL; exact (Int64.ofNat_mul a b).symm
theorem eL_inj {a b : Nat} (ha : a < 2 ^ 63) (hb : b < 2 ^ 63) (h : eL a = eL b) : a = b := by
  have := congrArg Int64.toNatClampNeg h
  unfold eL at this
  rwa [Int64.toNatClampNeg_ofNat_of_lt ha, Int64.toNatClampNeg_ofNat_of_lt hb] at this
theorem eL_of {a : Nat} (ha : a < 2 ^ 31) : (nI a).toInt64 = eL a := by
  unfold nI eL
  exact Int32.toInt64_ofNat (by omega)
/-- letters as one number, base 27 -/
def eV (f : Nat → Nat) : Nat → Nat
  | 0 => 0
  | k + 1 => 27 * eV f k + f k
theorem eV_lt (f : Nat → Nat) (k : Nat) (h : ∀ i, i < k → f i ≤ 26) : eV f k < 27 ^ k := by
  induction k with
  | zero => exact Nat.one_pos
  | succ k ih =>
    have := ih (fun i hi => h i (by omega))
    have := h k (by omega)
    rw [Nat.pow_succ]
    unfold eV; omega
theorem eV_inj (f g : Nat → Nat) (k n : Nat) (hf : ∀ i, i < k → 1 ≤ f i ∧ f i ≤ 26) (hg : ∀ i, i < n → 1 ≤ g i ∧ g i ≤ 26) : eV f k = eV g n → k = n ∧ ∀ i, i < n → f i = g i := by
  induction k generalizing n with
  | zero =>
    intro h
    cases n with
    | zero => exact ⟨rfl, fun i hi => absurd hi (by omega)⟩
    | succ n =>
      exfalso
      have := (hg n (by omega)).1
      have h0 : eV g (n + 1) = 27 * eV g n + g n := rfl
      have h1 : eV f 0 = 0 := rfl
      omega
  | succ k ih =>
    intro h
    cases n with
    | zero =>
      exfalso
      have := (hf k (by omega)).1
      have h0 : eV f (k + 1) = 27 * eV f k + f k := rfl
      have h1 : eV g 0 = 0 := rfl
      omega
    | succ n =>
      have h0 : eV f (k + 1) = 27 * eV f k + f k := rfl
      have h1 : eV g (n + 1) = 27 * eV g n + g n := rfl
      have a1 := hf k (by omega)
      have a2 := hg n (by omega)
      obtain ⟨b1, b2⟩ := ih n (fun i hi => hf i (by omega)) (fun i hi => hg i (by omega)) (by omega)
      refine ⟨by omega, fun i hi => ?_⟩
      by_cases hin : i = n
      · subst hin
        have : i = k := by omega
        subst this
        omega
      · exact b2 i (by omega)
def eTxR (T : Nat → Int32) (q : Nat) (M : rM) : Prop := q ≤ 120 ∧ rg M 12 0 28 = nI q ∧ ∀ j, j < q → rg M 1329 0 j = T j
/-- a letter's number -/
def eLt (T : Nat → Int32) (s i : Nat) : Nat := nx (T (s + i)) - 96
/-- a number of one or two digits -/
def eDv (T : Nat → Int32) (s : Nat) : Nat → Nat
  | 0 => 0
  | k + 1 => if k < 2 then 10 * eDv T s k + (nx (T (s + k)) - 48) else eDv T s k
/-- the token at hand, in the reference -/
def eTkR (T : Nat → Int32) (q s e : Nat) (M : rM) : Prop := rg M 12 0 31 = nI e ∧ rg M 12 0 32 = nI s ∧ rgl M 12 0 33 = (if q ≤ s then -2 else if eKn (T s) = 1 ∧ e - s ≤ 12 then eL (eV (eLt T s) (e - s)) else -1) ∧ rg M 12 0 34 = nI (if q ≤ s then 0 else if eKn (T s) = 2 then e - s else 0) ∧ (s < q → eKn (T s) = 2 → rg M 12 0 35 = nI (eDv T s (e - s)))
theorem kn1 {x : Int32} : eKn x = 1 ↔ 97 ≤ x ∧ x ≤ 122 := by
  unfold eKn
  by_cases h : 97 ≤ x ∧ x ≤ 122
  · simp [h]
  · rw [if_neg h]
    refine ⟨fun h2 => ?_, fun h2 => absurd h2 h⟩
    split at h2 <;> exact absurd h2 (by decide)
theorem kn2 {x : Int32} : eKn x = 2 ↔ 48 ≤ x ∧ x ≤ 57 := by
  unfold eKn
  by_cases h : 97 ≤ x ∧ x ≤ 122
  · rw [if_pos h]
    refine ⟨fun h2 => absurd h2 (by decide), fun h2 => ?_⟩
    have := Int32.le_trans h.1 h2.2
    exact absurd this (by decide)
  · rw [if_neg h]
    by_cases h2 : 48 ≤ x ∧ x ≤ 57
    · simp [h2]
    · rw [if_neg h2]
      exact ⟨fun h3 => absurd h3 (by decide), fun h3 => absurd h3 h2⟩
theorem kn0 (x : Int32) : eKn x = 0 ∨ eKn x = 1 ∨ eKn x = 2 := by
  unfold eKn; split
  · exact .inr (.inl rfl)
  · split
    · exact .inr (.inr rfl)
    · exact .inl rfl
theorem next_e {T : Nat → Int32} {q p : Nat} {MR : rM} (h : eTxR T q MR) (hp : p ≤ q) (h3 : rg MR 12 0 31 = nI p) : ∃ MR', m12_nextToken MR = some MR' ∧ eH [11231, 11232, 11234, 11235] MR MR' ∧ eTkR T q (eSk T q p) (eEd T q (eSk T q p)) MR' := by
  obtain ⟨hq, h1, hT⟩ := h
  obtain ⟨s1, s2, s3, s4⟩ := eSk_ok T hp
  obtain ⟨s, hs⟩ : ∃ s, s = eSk T q p := ⟨_, rfl⟩
  rw [← hs] at s1 s2 s3 s4 ⊢
  have h38 : ∀ M, eH [11231] MR M → rg M 12 0 31 = nI s → ∃ MR', m12_nextToken_38 M = some MR' ∧ eH [11231, 11232, 11234, 11235] MR MR' ∧ eTkR T q s (eEd T q s) MR' := by
    intro M i1 i3
    have e28 : rg M 12 0 28 = nI q := by rw [i1 12 0 28 rfl, h1]
    obtain ⟨N, hN⟩ : ∃ N, N = rsl (rs (rs (rs M 12 0 32 (nI s)) 12 0 34 0) 12 0 35 0) 12 0 33 (-2) := ⟨_, rfl⟩
    have fN : eH [11232, 11234, 11235] M N := by rw [hN]; exact (by repeat (first | exact eH_refl | refine eH_rs ?_ rfl | refine eH_rsl ?_))
    have n31 : rg N 12 0 31 = nI s := by rw [fN 12 0 31 rfl, i3]
    have n28 : rg N 12 0 28 = nI q := by rw [fN 12 0 28 rfl, e28]
    have n32 : rg N 12 0 32 = nI s := by rw [hN]; rfl
    have n34 : rg N 12 0 34 = 0 := by rw [hN]; rfl
    have n35 : rg N 12 0 35 = 0 := by rw [hN]; rfl
    have n33 : rgl N 12 0 33 = -2 := by rw [hN]; rfl
    have fMN : eH [11231, 11232, 11234, 11235] MR N := eH_trans (eH_mono i1 rfl) (eH_mono fN rfl)
    unfold m12_nextToken_38
    rw [i3, ← hN, n31, n28]
    by_cases hsq : s = q
    · rw [if_pos (by rw [hsq])]
      have he : eEd T q s = s := by unfold eEd; rw [if_pos (by omega)]
      refine ⟨N, rfl, fMN, by rw [he]; exact n31, n32, ?_, ?_, fun h => absurd h (by omega)⟩
      · rw [if_pos (by omega)]; exact n33
      · rw [if_pos (by omega)]; exact n34
    · have hsl : s < q := by omega
      have hts : rg N 1329 0 s = T s := by rw [fN 1329 0 s rfl, i1 1329 0 s rfl]; exact hT s hsl
      obtain ⟨e1', e2', e3', e4', e5'⟩ := eEd_ok T hsl
      obtain ⟨e, he⟩ : ∃ e, e = eEd T q s := ⟨_, rfl⟩
      rw [← he] at e1' e2' e3' e4' e5' ⊢
      rw [if_neg (fun h => hsq (by rwa [eI_inj (by omega) (by omega)] at h)), ezin_nI (show s < 120 by omega) (by decide), Bool.and_true, zgd_t, ex_nI (show s < 2 ^ 31 by omega), hts]
      by_cases k1 : eKn (T s) = 1
      · have k1' := kn1.mp k1
        rw [in_y k1'.1 k1'.2, zbd_s, if_neg (by decide)]
        -- a word
        refine eloop (σ := rM) (fun f k M' => ∃ MR', m12_nextToken_99 f M' = some MR' ∧ eH [11231, 11232, 11234, 11235] MR MR' ∧ eTkR T q s e MR') (fun k M' => eH [11231] N M' ∧ rg M' 12 0 31 = nI k ∧ rgl M' 12 0 33 = if k - s ≤ 12 then eL (eV (eLt T s) (k - s)) else -1) (m := e) (k0 := s) (by omega) ?_ ?_ (zfu_gt (by omega)) ⟨eH_rsl eH_refl, by rw [rg_rsl]; exact n31, by rw [rgl_rsl, if_pos ⟨rfl, rfl, rfl⟩, Nat.sub_self, if_pos (by omega)]; rfl⟩
        · rintro f M' ⟨j1, j2, j3⟩
          have d28 : rg M' 12 0 28 = nI q := by rw [j1 12 0 28 rfl, n28]
          have d32 : rg M' 12 0 32 = nI s := by rw [j1 12 0 32 rfl, n32]
          have dsub : nI e - nI s = nI (e - s) := by
            obtain ⟨u, rfl⟩ : ∃ u, e = u + s := ⟨e - s, by omega⟩
            rw [← eI_add, Nat.add_sub_cancel]; exact Int32.add_sub_cancel _ _
          have hfin : ∃ MR', m12_nextToken_189 M' = some MR' ∧ eH [11231, 11232, 11234, 11235] MR MR' ∧ eTkR T q s e MR' := by
            unfold m12_nextToken_189 m12_nextToken_214
            simp only [j2, d32, dsub, show (nI (e - s) ≤ 12) = (e - s ≤ 12) from by rw [show (12 : Int32) = nI 12 from rfl, eI_le (by omega) (by omega)]]
            have hq' : ¬ q ≤ s := by omega
            have hfr : ∀ v, eH [11231, 11232, 11234, 11235] MR (rsl M' 12 0 33 v) := fun v => eH_rsl (eH_trans fMN (eH_mono j1 rfl))
            have h34 : ∀ v, rg (rsl M' 12 0 33 v) 12 0 34 = 0 := fun v => by rw [rg_rsl, j1 12 0 34 rfl, n34]
            have hnd : ¬ eKn (T s) = 2 := by rw [k1]; decide
            split
            · rename_i hl
              refine ⟨_, rfl, hfr _, by rw [rg_rsl]; exact j2, by rw [rg_rsl]; exact d32, ?_, ?_, fun _ h => absurd h hnd⟩
              · rw [rgl_rsl, if_pos ⟨rfl, rfl, rfl⟩, j3, if_pos hl, if_neg hq', if_pos ⟨k1, hl⟩]
              · rw [h34, if_neg hq', if_neg hnd]; rfl
            · rename_i hl
              refine ⟨_, rfl, hfr _, by rw [rg_rsl]; exact j2, by rw [rg_rsl]; exact d32, ?_, ?_, fun _ h => absurd h hnd⟩
              · rw [rgl_rsl, if_pos ⟨rfl, rfl, rfl⟩, if_neg hq', if_neg (fun h => hl h.2)]
              · rw [h34, if_neg hq', if_neg hnd]; rfl
          by_cases heq : q ≤ e
          · simp only [m12_nextToken_99, d28, j2, eI_le (show q < 2 ^ 31 by omega) (show e < 2 ^ 31 by omega), heq, zbd_s, zbv_s, zgd_t, Bool.and_true, Bool.true_and, Bool.and_self, if_true, if_false, e_01, eq_self, Bool.false_eq_true]
            exact hfin
          · have hte : rg M' 1329 0 e = T e := by rw [j1 1329 0 e rfl, fN 1329 0 e rfl, i1 1329 0 e rfl]; exact hT e (by omega)
            have hne : ¬ (97 ≤ T e ∧ T e ≤ 122) := by
              intro h
              have h2 := kn1.mpr h
              rcases e4' (by omega) with h0 | h0
              · rw [k1] at h0; exact absurd h0 (by decide)
              · exact h0 (by rw [h2, k1])
            simp only [m12_nextToken_99, d28, j2, eI_le (show q < 2 ^ 31 by omega) (show e < 2 ^ 31 by omega), heq, ezin_nI (show e < 120 by omega) (show 120 < 2 ^ 31 by decide), ex_nI (show e < 2 ^ 31 by omega), hte, in_n hne, zbd_s, zbv_s, zgd_t, Bool.and_true, Bool.true_and, Bool.and_self, if_true, if_false, e_01, eq_self, Bool.false_eq_true]
            exact hfin
        · rintro f k M' hk1 hk ⟨j1, j2, j3⟩ ih
          have d28 : rg M' 12 0 28 = nI q := by rw [j1 12 0 28 rfl, n28]
          have d32 : rg M' 12 0 32 = nI s := by rw [j1 12 0 32 rfl, n32]
          have dsub : nI k - nI s = nI (k - s) := by
            obtain ⟨u, rfl⟩ : ∃ u, k = u + s := ⟨k - s, by omega⟩
            rw [← eI_add, Nat.add_sub_cancel]; exact Int32.add_sub_cancel _ _
          have htk : rg M' 1329 0 k = T k := by rw [j1 1329 0 k rfl, fN 1329 0 k rfl, i1 1329 0 k rfl]; exact hT k (by omega)
          have hkk : 97 ≤ T k ∧ T k ≤ 122 := kn1.mp (by rw [e3' k hk1 hk, k1])
          obtain ⟨x, hx, hTx⟩ := eI_ofl (b := 122) (Int32.le_trans (show (0 : Int32) ≤ 97 by decide) hkk.1) hkk.2 (by decide)
          have hx97 : 97 ≤ x := by
            have := hkk.1
            rw [hTx, show (97 : Int32) = nI 97 from rfl, eI_le (by omega) (by omega)] at this; exact this
          have hl : eLt T s (k - s) = x - 96 := by
            unfold eLt; rw [show s + (k - s) = k by omega, hTx, ex_nI (by omega)]
          have h31 : ∀ v, rg (rsl M' 12 0 33 v) 12 0 31 = nI k := fun v => by rw [rg_rsl]; exact j2
          simp only [m12_nextToken_99, m12_nextToken_173, d28, d32, j2, eI_le (show q < 2 ^ 31 by omega) (show k < 2 ^ 31 by omega), show (q ≤ k) = False from eq_false (by omega), ezin_nI (show k < 120 by omega) (show 120 < 2 ^ 31 by decide), ex_nI (show k < 2 ^ 31 by omega), htk, in_y hkk.1 hkk.2, dsub, show (12 ≤ nI (k - s)) = (12 ≤ k - s) from by rw [show (12 : Int32) = nI 12 from rfl, eI_le (by omega) (by omega)], h31, ep1, zbd_s, zbv_s, zgd_t, Bool.and_true, Bool.true_and, Bool.and_self, if_true, if_false, e_01, eq_self, Bool.false_eq_true]
          by_cases h12 : 12 ≤ k - s
          · simp only [h12, if_true]
            refine ih _ ⟨eH_rs (eH_rsl j1) rfl, rfl, ?_⟩
            rw [rgl_rs, rgl_rsl, if_pos ⟨rfl, rfl, rfl⟩, if_neg (by omega)]
          · simp only [h12, if_false]
            refine ih _ ⟨eH_rs (eH_rsl j1) rfl, rfl, ?_⟩
            rw [rgl_rs, rgl_rsl, if_pos ⟨rfl, rfl, rfl⟩, if_pos (by omega), j3, if_pos (by omega), hTx, eL_of (by omega), show (27 : Int64) = eL 27 from rfl, eL_mul, eL_add, show k + 1 - s = (k - s) + 1 by omega]
            show eL (27 * eV (eLt T s) (k - s) + x) - 96 = eL (27 * eV (eLt T s) (k - s) + eLt T s (k - s))
            rw [hl, show 27 * eV (eLt T s) (k - s) + x = (27 * eV (eLt T s) (k - s) + (x - 96)) + 96 by omega, ← eL_add]
            exact Int64.add_sub_cancel _ _
      · have k1' : ¬ (97 ≤ T s ∧ T s ≤ 122) := fun h => k1 (kn1.mpr h)
        rw [in_n k1', zbd_s, if_pos rfl, n31, ezin_nI (show s < 120 by omega) (by decide), Bool.and_true, zgd_t, ex_nI (show s < 2 ^ 31 by omega), hts]
        have hq' : ¬ q ≤ s := by omega
        by_cases k2 : eKn (T s) = 2
        · have k2' := kn2.mp k2
          rw [in_y k2'.1 k2'.2, zbd_s, if_neg (by decide)]
          refine eloop (σ := rM) (fun f k M' => ∃ MR', m12_nextToken_246 f M' = some MR' ∧ eH [11231, 11232, 11234, 11235] MR MR' ∧ eTkR T q s e MR') (fun k M' => eH [11231, 11234, 11235] N M' ∧ rg M' 12 0 31 = nI k ∧ rgl M' 12 0 33 = -1 ∧ rg M' 12 0 34 = nI (k - s) ∧ rg M' 12 0 35 = nI (eDv T s (k - s))) (m := e) (k0 := s) (by omega) ?_ ?_ (zfu_gt (by omega)) ⟨eH_rsl eH_refl, by rw [rg_rsl]; exact n31, by rw [rgl_rsl, if_pos ⟨rfl, rfl, rfl⟩], by rw [rg_rsl, n34, Nat.sub_self]; rfl, by rw [rg_rsl, n35, Nat.sub_self]; rfl⟩
          · rintro f M' ⟨j1, j2, j3, j4, j5⟩
            have d28 : rg M' 12 0 28 = nI q := by rw [j1 12 0 28 rfl, n28]
            have d32 : rg M' 12 0 32 = nI s := by rw [j1 12 0 32 rfl, n32]
            have hfin : ∃ MR', some M' = some MR' ∧ eH [11231, 11232, 11234, 11235] MR MR' ∧ eTkR T q s e MR' := by
              refine ⟨M', rfl, eH_trans fMN (eH_mono j1 rfl), j2, d32, ?_, ?_, fun _ _ => j5⟩
              · rw [j3, if_neg hq', if_neg (fun h => k1 h.1)]
              · rw [j4, if_neg hq', if_pos k2]
            by_cases heq : q ≤ e
            · simp only [m12_nextToken_246, d28, j2, eI_le (show q < 2 ^ 31 by omega) (show e < 2 ^ 31 by omega), heq, zbd_s, zbv_s, zgd_t, Bool.and_true, Bool.true_and, Bool.and_self, if_true, if_false, e_01, eq_self, Bool.false_eq_true]
              exact hfin
            · have hte : rg M' 1329 0 e = T e := by rw [j1 1329 0 e rfl, fN 1329 0 e rfl, i1 1329 0 e rfl]; exact hT e (by omega)
              have hne : ¬ (48 ≤ T e ∧ T e ≤ 57) := by
                intro h
                have h2 := kn2.mpr h
                rcases e4' (by omega) with h0 | h0
                · rw [k2] at h0; exact absurd h0 (by decide)
                · exact h0 (by rw [h2, k2])
              simp only [m12_nextToken_246, d28, j2, eI_le (show q < 2 ^ 31 by omega) (show e < 2 ^ 31 by omega), heq, ezin_nI (show e < 120 by omega) (show 120 < 2 ^ 31 by decide), ex_nI (show e < 2 ^ 31 by omega), hte, in_n hne, zbd_s, zbv_s, zgd_t, Bool.and_true, Bool.true_and, Bool.and_self, if_true, if_false, e_01, eq_self, Bool.false_eq_true]
              exact hfin
          · rintro f k M' hk1 hk ⟨j1, j2, j3, j4, j5⟩ ih
            have d28 : rg M' 12 0 28 = nI q := by rw [j1 12 0 28 rfl, n28]
            have htk : rg M' 1329 0 k = T k := by rw [j1 1329 0 k rfl, fN 1329 0 k rfl, i1 1329 0 k rfl]; exact hT k (by omega)
            have hkk : 48 ≤ T k ∧ T k ≤ 57 := kn2.mp (by rw [e3' k hk1 hk, k2])
            obtain ⟨x, hx, hTx⟩ := eI_ofl (b := 57) (Int32.le_trans (show (0 : Int32) ≤ 48 by decide) hkk.1) hkk.2 (by decide)
            have hx48 : 48 ≤ x := by
              have := hkk.1
              rw [hTx, show (48 : Int32) = nI 48 from rfl, eI_le (by omega) (by omega)] at this; exact this
            have hdv : eDv T s (k + 1 - s) = if k - s < 2 then 10 * eDv T s (k - s) + (x - 48) else eDv T s (k - s) := by
              rw [show k + 1 - s = (k - s) + 1 by omega]
              show (if k - s < 2 then 10 * eDv T s (k - s) + (nx (T (s + (k - s))) - 48) else eDv T s (k - s)) = _
              rw [show s + (k - s) = k by omega, hTx, ex_nI (by omega)]
            have hstep : ∀ v, v = nI (eDv T s (k + 1 - s)) → ∃ MR', m12_nextToken_312 (m12_nextToken_246 f) v M' = some MR' ∧ eH [11231, 11232, 11234, 11235] MR MR' ∧ eTkR T q s e MR' := by
              intro v hv
              unfold m12_nextToken_312
              have a1 : rg (rs M' 12 0 35 v) 12 0 34 = nI (k - s) := by rw [rg_rs, if_neg (by decide), j4]
              have a2 : rg (rs (rs M' 12 0 35 v) 12 0 34 (nI (k + 1 - s))) 12 0 31 = nI k := by rw [rg_rs, if_neg (by decide), rg_rs, if_neg (by decide), j2]
              rw [a1, ep1, show k - s + 1 = k + 1 - s by omega, a2, ep1]
              refine ih _ ⟨eH_rs (eH_rs (eH_rs j1 rfl) rfl) rfl, rfl, ?_, rfl, ?_⟩
              · rw [rgl_rs, rgl_rs, rgl_rs]; exact j3
              · rw [rg_rs, if_neg (by decide), rg_rs, if_neg (by decide), rg_rs, if_pos ⟨rfl, rfl, rfl⟩]; exact hv
            simp only [m12_nextToken_246, d28, j2, j4, j5, eI_le (show q < 2 ^ 31 by omega) (show k < 2 ^ 31 by omega), show (q ≤ k) = False from eq_false (by omega), ezin_nI (show k < 120 by omega) (show 120 < 2 ^ 31 by decide), ex_nI (show k < 2 ^ 31 by omega), htk, in_y hkk.1 hkk.2, show (2 ≤ nI (k - s)) = (2 ≤ k - s) from by rw [show (2 : Int32) = nI 2 from rfl, eI_le (by omega) (by omega)], zbd_s, zbv_s, zgd_t, Bool.and_true, Bool.true_and, Bool.and_self, if_true, if_false, e_01, eq_self, Bool.false_eq_true]
            by_cases h2 : 2 ≤ k - s
            · simp only [h2, if_true]
              exact hstep _ (by rw [hdv, if_neg (by omega)])
            · simp only [h2, if_false]
              refine hstep _ ?_
              rw [hdv, if_pos (by omega), hTx, show (10 : Int32) = nI 10 from rfl, eI_mul, eI_add, show 10 * eDv T s (k - s) + x = (10 * eDv T s (k - s) + (x - 48)) + 48 by omega, ← eI_add]
              exact Int32.add_sub_cancel _ _
        · have k2' : ¬ (48 ≤ T s ∧ T s ≤ 57) := fun h => k2 (kn2.mpr h)
          have k0 : eKn (T s) = 0 := by rcases kn0 (T s) with h | h | h; exact h; exact absurd h k1; exact absurd h k2
          have hes := e5' k0
          rw [in_n k2', zbd_s, if_pos rfl]
          have a1 : rg (rsl N 12 0 33 (-1)) 12 0 31 = nI s := by rw [rg_rsl]; exact n31
          rw [a1, ep1]
          refine ⟨_, rfl, eH_rs (eH_rsl fMN) rfl, by rw [hes]; rfl, ?_, ?_, ?_, fun _ h => absurd h k2⟩
          · rw [rg_rs, if_neg (by decide), rg_rsl]; exact n32
          · rw [rgl_rs, rgl_rsl, if_pos ⟨rfl, rfl, rfl⟩, if_neg hq', if_neg (fun h => k1 h.1)]
          · rw [rg_rs, if_neg (by decide), rg_rsl, n34, if_neg hq', if_neg k2]; rfl
  have h0 : m12_nextToken_0 (zfu + 1) MR = m12_nextToken MR := by rw [m12_nextToken_0, m12_nextToken]
  rw [← h0]
  refine eloop (σ := rM) (fun f k M => ∃ MR', m12_nextToken_0 f M = some MR' ∧ eH [11231, 11232, 11234, 11235] MR MR' ∧ eTkR T q s (eEd T q s) MR') (fun k M => eH [11231] MR M ∧ rg M 12 0 31 = nI k) (m := s) (k0 := p) s1 ?_ ?_ (Nat.lt_succ_of_lt (zfu_gt (show s - p < 100000 by omega))) ⟨eH_refl, h3⟩
  · rintro f M ⟨i1, i3⟩
    have e28 : rg M 12 0 28 = nI q := by rw [i1 12 0 28 rfl, h1]
    by_cases hsq : q ≤ s
    · simp only [m12_nextToken_0, e28, i3, eI_le (show q < 2 ^ 31 by omega) (show s < 2 ^ 31 by omega), hsq, if_true]
      exact h38 M i1 i3
    · have hts : rg M 1329 0 s = T s := by rw [i1 1329 0 s rfl]; exact hT s (by omega)
      simp only [m12_nextToken_0, e28, i3, eI_le (show q < 2 ^ 31 by omega) (show s < 2 ^ 31 by omega), hsq, ezin_nI (show s < 120 by omega) (show 120 < 2 ^ 31 by decide), ex_nI (show s < 2 ^ 31 by omega), hts, s4 (by omega), zbd_s, zbv_s, zgd_t, Bool.and_true, Bool.true_and, Bool.and_self, if_true, if_false, e_01, eq_self, Bool.false_eq_true]
      exact h38 M i1 i3
  · rintro f k M hk1 hk ⟨i1, i3⟩ ih
    have e28 : rg M 12 0 28 = nI q := by rw [i1 12 0 28 rfl, h1]
    have htk : rg M 1329 0 k = T k := by rw [i1 1329 0 k rfl]; exact hT k (by omega)
    simp only [m12_nextToken_0, e28, i3, eI_le (show q < 2 ^ 31 by omega) (show k < 2 ^ 31 by omega), show (q ≤ k) = False from eq_false (by omega), ezin_nI (show k < 120 by omega) (show 120 < 2 ^ 31 by decide), ex_nI (show k < 2 ^ 31 by omega), htk, s3 k hk1 hk, ep1, zbd_s, zbv_s, zgd_t, Bool.and_true, Bool.true_and, Bool.and_self, if_true, if_false, e_01, eq_self, Bool.false_eq_true]
    exact ih _ ⟨eH_rs i1 rfl, rfl⟩
