/-- the best of the sets below n: the fewest, then the least -/
def eBe (gd : Nat → Bool) : Nat → Option Nat
  | 0 => none
  | s + 1 => if gd s then (match eBe gd s with
    | none => some s
    | some b => if eBc s < eBc b then some s else some b) else eBe gd s
theorem eBe_s (gd : Nat → Bool) (s : Nat) : eBe gd (s + 1) = if gd s then (match eBe gd s with
    | none => some s
    | some b => if eBc s < eBc b then some s else some b) else eBe gd s := rfl
theorem eBe_none (gd : Nat → Bool) (n : Nat) (h : eBe gd n = none) : ∀ s, s < n → gd s = false := by
  induction n with
  | zero => intro s hs; omega
  | succ n ih =>
    intro s hs
    rw [eBe_s] at h
    split at h
    · split at h
      · cases h
      · split at h <;> cases h
    · rename_i hg
      by_cases hsn : s = n
      · subst hsn; simpa using hg
      · exact ih h s (by omega)
theorem eBe_some (gd : Nat → Bool) (n b : Nat) (h : eBe gd n = some b) : b < n ∧ gd b = true ∧ ∀ s, s < n → gd s = true → eBc b ≤ eBc s ∧ (eBc s = eBc b → b ≤ s) := by
  induction n generalizing b with
  | zero => cases h
  | succ n ih =>
    rw [eBe_s] at h
    split at h
    · rename_i hg
      cases hB : eBe gd n with
      | none =>
        rw [hB] at h
        cases h
        refine ⟨by omega, hg, fun s hs hgs => ?_⟩
        by_cases hsn : s = n
        · subst hsn; exact ⟨Nat.le_refl _, fun _ => Nat.le_refl _⟩
        · have := eBe_none gd n hB s (by omega); rw [hgs] at this; cases this
      | some b' =>
        rw [hB] at h
        obtain ⟨h1, h2, h3⟩ := ih b' hB
        dsimp only at h
        split at h <;> cases h
        · rename_i hlt
          refine ⟨by omega, hg, fun s hs hgs => ?_⟩
          by_cases hsn : s = n
          · subst hsn; exact ⟨Nat.le_refl _, fun _ => Nat.le_refl _⟩
          · have := h3 s (by omega) hgs
            exact ⟨by omega, fun he => by omega⟩
        · rename_i hge
          refine ⟨by omega, h2, fun s hs hgs => ?_⟩
          by_cases hsn : s = n
          · subst hsn; exact ⟨by omega, fun _ => by omega⟩
          · exact h3 s (by omega) hgs
    · rename_i hg
      obtain ⟨h1, h2, h3⟩ := ih b h
      refine ⟨by omega, h2, fun s hs hgs => ?_⟩
      by_cases hsn : s = n
      · subst hsn; exact absurd hgs hg
      · exact h3 s (by omega) hgs
theorem eBc_6 : ∀ s : Nat, s < 64 → eBc s ≤ 6 := by decide
theorem eBe_hit {gd : Nat → Bool} {n s z : Nat} (hs : s < n) (hg : gd s = true) (hz : eBc s = z) (h1 : ∀ u, u < n → gd u = true → z ≤ eBc u) (h2 : ∀ u, u < s → gd u = true → eBc u ≠ z) : eBe gd n = some s := by
  cases hB : eBe gd n with
  | none => have := eBe_none gd n hB s hs; rw [hg] at this; cases this
  | some b =>
    obtain ⟨a1, a2, a3⟩ := eBe_some gd n b hB
    have c1 := a3 s hs hg
    have c2 := h1 b a1 a2
    have c3 := c1.2 (by omega)
    by_cases hbs : b = s
    · rw [hbs]
    · exact absurd (show eBc b = z by omega) (h2 b (by omega) a2)
def eGQ (MR : rM) (A d s : Nat) : Bool := decide (nI s &&& rg MR 12 0 71 = 0) && eAny MR (rg MR 12 0 71 ||| nI s) A d
theorem quar_c {m t0 d A : Nat} {MC0 : cM} {MR : rM} (g0 : eG0 m t0 MC0 MR) (g8 : eG8 MC0 MR) (h1 : cg MC0 4 0 1 = nI d) (hd1 : 1 ≤ d) (hd : d ≤ 5) (hA : A ≤ 3) (h6 : rg MR 1312 0 6 = nI A) : ∃ MC', m4_fewestQuarrelling MC0 = some (eBI (eBe (eGQ MR A d) 64), MC') ∧ eQr MC0 MC' := by
  unfold m4_fewestQuarrelling
  refine eloop (σ := cM) (fun f z M => ∃ MC', m4_fewestQuarrelling_2 f (nI z) M = some (eBI (eBe (eGQ MR A d) 64), MC') ∧ eQr MC0 MC') (fun z M => eQr MC0 M ∧ ∀ s, s < 64 → eGQ MR A d s = true → z ≤ eBc s) (m := 7) (k0 := 0) (by omega) ?_ ?_ (zfu_gt (by omega)) ⟨⟨eF_refl, fun _ _ => rfl, g8.2.2.2.2.2⟩, fun s _ _ => Nat.zero_le _⟩
  · rintro f M ⟨i1, i2⟩
    have hn : eBe (eGQ MR A d) 64 = none := by
      cases hB : eBe (eGQ MR A d) 64 with
      | none => rfl
      | some b =>
        obtain ⟨a1, a2, a3⟩ := eBe_some _ _ _ hB
        have := i2 b a1 a2
        have := eBc_6 b a1
        omega
    simp only [m4_fewestQuarrelling_2, show ((6 : Int32) < nI 7) = True from eq_true (by decide), hn, zbd_s, zbv_s, zgd_t, Bool.and_true, Bool.true_and, Bool.and_self, if_true, if_false, e_01, eq_self, Bool.false_eq_true]
    exact ⟨M, rfl, i1⟩
  · rintro f z M _ hz ⟨i1, i2⟩ ih
    have hz6 : ((6 : Int32) < nI z) = False := eq_false (by rw [show (6 : Int32) = nI 6 from rfl, eI_lt (by omega) (by omega)]; omega)
    simp only [m4_fewestQuarrelling_2, hz6, zbd_s, zbv_s, zgd_t, Bool.and_true, Bool.true_and, Bool.and_self, if_true, if_false, e_01, eq_self, Bool.false_eq_true]
    refine eloop (σ := cM) (fun f' s N => ∃ MC', m4_fewestQuarrelling_10 (m4_fewestQuarrelling_2 f) f' (nI z) (nI s) N = some (eBI (eBe (eGQ MR A d) 64), MC') ∧ eQr MC0 MC') (fun s N => eQr MC0 N ∧ ∀ u, u < s → eGQ MR A d u = true → eBc u ≠ z) (m := 64) (k0 := 0) (by omega) ?_ ?_ (zfu_gt (by omega)) ⟨i1, fun u h => absurd h (by omega)⟩
    · rintro f' N ⟨j1, j2⟩
      simp only [m4_fewestQuarrelling_10, show ((64 : Int32) ≤ nI 64) = True from eq_true (by decide), ep1, zbd_s, zbv_s, zgd_t, Bool.and_true, Bool.true_and, Bool.and_self, if_true, if_false, e_01, eq_self, Bool.false_eq_true]
      refine ih N ⟨j1, fun s hs hg => ?_⟩
      have := i2 s hs hg
      have := j2 s hs hg
      omega
    · rintro f' s N _ hs ⟨j1, j2⟩ ih'
      have hb := eBc_6 s hs
      have hl : cg N 4 0 2 = rg MR 12 0 71 := by rw [j1.1 4 0 2 rfl]; exact g8.2.1.1
      obtain ⟨N', s1, s2⟩ := some_c g0 g8 h1 hd1 hd hA h6 j1 (rg MR 12 0 71 ||| nI s)
      simp only [m4_fewestQuarrelling_10, m4_fewestQuarrelling_51, show ((64 : Int32) ≤ nI s) = False from eq_false (by rw [show (64 : Int32) = nI 64 from rfl, eI_le (by omega) (by omega)]; omega), bitC (show s < 1024 by omega), eI_inj (show eBc s < 2 ^ 31 by omega) (show z < 2 ^ 31 by omega), hl, s1, ei_1, ep1, zbd_s, zbv_s, zgd_t, Bool.and_true, Bool.true_and, Bool.and_self, if_true, if_false, e_01, eq_self, Bool.false_eq_true]
      by_cases c1 : eBc s = z
      · simp only [c1, if_true]
        by_cases c2 : nI s &&& rg MR 12 0 71 = 0
        · simp only [c2, if_true]
          cases c3 : eAny MR (rg MR 12 0 71 ||| nI s) A d with
          | true =>
            have hg : eGQ MR A d s = true := by unfold eGQ; simp [c2, c3]
            have := eBe_hit hs hg c1 i2 j2
            simp only [reduceCtorEq, if_false]
            exact ⟨N', by rw [this]; rfl, s2⟩
          | false =>
            simp only [if_true]
            refine ih' N' ⟨s2, fun u hu hg => ?_⟩
            by_cases hus : u = s
            · subst hus; unfold eGQ at hg; rw [c3] at hg; simp at hg
            · exact j2 u (by omega) hg
        · simp only [c2, if_false]
          refine ih' N ⟨j1, fun u hu hg => ?_⟩
          by_cases hus : u = s
          · subst hus; unfold eGQ at hg; simp [c2] at hg
          · exact j2 u (by omega) hg
      · simp only [c1, if_false]
        refine ih' N ⟨j1, fun u hu hg => ?_⟩
        by_cases hus : u = s
        · subst hus; exact c1
        · exact j2 u (by omega) hg
theorem quar_e {d A : Nat} {MC : cM} {MR : rM} (g8 : eG8 MC MR) (h67 : rg MR 12 0 67 = nI d) (hd1 : 1 ≤ d) (hd : d ≤ 5) (hA : A ≤ 3) (h6 : rg MR 1312 0 6 = nI A) : m12_quarrel MR = some (eBI (eBe (eGQ MR A d) 64), MR) := by
  unfold m12_quarrel
  refine eloop0 (fun f s => m12_quarrel_4 f (eBI (eBe (eGQ MR A d) s)) (nI s) MR = some (eBI (eBe (eGQ MR A d) 64), MR)) (m := 64) (k0 := 0) (by omega) ?_ ?_ (zfu_gt (by omega))
  · intro f
    simp only [m12_quarrel_4, show ((64 : Int32) ≤ nI 64) = True from eq_true (by decide), zbd_s, zbv_s, zgd_t, Bool.and_true, Bool.true_and, Bool.and_self, if_true, if_false, e_01, eq_self, Bool.false_eq_true]
  · intro f s _ hs ih
    have hb := eBc_6 s hs
    rw [eBe_s] at ih
    have h35 : ∀ x1, m12_quarrel_35 (m12_quarrel_4 f) x1 (nI s) MR = m12_quarrel_4 f (if eAny MR (rg MR 12 0 71 ||| nI s) A d then nI s else x1) (nI (s + 1)) MR := by
      intro x1
      rw [any_e g8 h67 hd1 hd hA h6]
      unfold m12_quarrel_72 m12_quarrel_81 m12_quarrel_82
      rw [ep1]
      cases eAny MR (rg MR 12 0 71 ||| nI s) A d <;> simp
    simp only [m12_quarrel_4, m12_quarrel_82, show ((64 : Int32) ≤ nI s) = False from eq_false (by rw [show (64 : Int32) = nI 64 from rfl, eI_le (by omega) (by omega)]; omega), h35, bits_e (show s < 1024 by omega), ep1, zbd_s, zbv_s, zgd_t, Bool.and_true, Bool.true_and, Bool.and_self, if_true, if_false, e_01, eq_self, Bool.false_eq_true]
    by_cases c2 : nI s &&& rg MR 12 0 71 = 0
    · simp only [c2, if_true]
      have hgd : eGQ MR A d s = eAny MR (rg MR 12 0 71 ||| nI s) A d := by unfold eGQ; simp [c2]
      rw [hgd] at ih
      cases hB : eBe (eGQ MR A d) s with
      | none =>
        rw [hB] at ih
        simp only [eBI, if_true]
        cases c3 : eAny MR (rg MR 12 0 71 ||| nI s) A d with
        | true => rw [c3] at ih; simp only [if_true, eBI] at ih ⊢; exact ih
        | false => rw [c3] at ih; simp only [Bool.false_eq_true, if_false, eBI] at ih ⊢; exact ih
      | some b =>
        rw [hB] at ih
        have hb64 := (eBe_some _ _ _ hB).1
        have hbb := eBc_6 b (by omega)
        simp only [eBI, nI_m1 (show b < 2 ^ 31 by omega), if_false, bits_e (show b < 1024 by omega), eI_le (show eBc b < 2 ^ 31 by omega) (show eBc s < 2 ^ 31 by omega), zbd_s]
        by_cases c4 : eBc b ≤ eBc s
        · simp only [c4, if_true]
          cases c3 : eAny MR (rg MR 12 0 71 ||| nI s) A d with
          | true => rw [c3] at ih; simp only [if_true, show (eBc s < eBc b) = False from eq_false (by omega), if_false, eBI] at ih ⊢; exact ih
          | false => rw [c3] at ih; simp only [Bool.false_eq_true, if_false, eBI] at ih ⊢; exact ih
        · simp only [c4, if_false, h35]
          cases c3 : eAny MR (rg MR 12 0 71 ||| nI s) A d with
          | true => rw [c3] at ih; simp only [if_true, show (eBc s < eBc b) = True from eq_true (by omega), eBI] at ih ⊢; exact ih
          | false => rw [c3] at ih; simp only [Bool.false_eq_true, if_false, eBI] at ih ⊢; exact ih
    · simp only [c2, if_false]
      have hgd : eGQ MR A d s = false := by unfold eGQ; simp [c2]
      rw [hgd] at ih
      simpa using ih
theorem o_quarrel {n : Nat} {MC : cM} {MR : rM} (h : eRel n MC MR) : eO n (m11_quarrel MC) (m12_quarrel MR) := by
  obtain ⟨m, t, hm, ht, g0, g1, g2, g3, g4, g5, g6, g7, g8, g9⟩ := h
  obtain ⟨d, d1, d2, d3, d4⟩ := g8.1
  obtain ⟨A, hA, hA6⟩ := miss_ok g0
  obtain ⟨MC', c1, c2, c3, c4⟩ := quar_c g0 g8 d3 d1 d2 hA hA6
  unfold m11_quarrel
  rw [c1, quar_e g8 d4 d1 d2 hA hA6, zbd_s]
  have fR : eH [] MR MR := eH_refl
  exact eO_fin rfl ⟨m, t, hm, ht, eG0_fr g0 c2 fR rfl rfl, eG1_fr g1 c2 fR rfl rfl, eG2_fr g2 c2 fR rfl rfl, eG3_fr g3 c2 fR c3 rfl rfl, eG4_fr g4 c2 fR rfl rfl, eG5_fr g5 c2 fR rfl rfl, eG6_fr g6 c2 fR rfl rfl, eG7_mono (eG7_fr g7 c2 fR rfl rfl) (by omega), eG8_fr2 g8 c2 fR c4 rfl rfl, eG9_fr g9 c2 fR rfl rfl⟩
