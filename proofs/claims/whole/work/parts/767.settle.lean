/-! settled, the class's way -/
def eWt (M : rM) (st t s : Nat) : Int32 := eSet 6 (fun e => st.testBit e && (eTn M e t && eHe M e s))
theorem eWt_ok (M : rM) (st t s s' : Nat) : eWt M st t s = eWt M st t s' ↔ ∀ e, e < 6 → st.testBit e = true → eTn M e t = true → eHe M e s = eHe M e s' := by
  unfold eWt
  constructor
  · intro h e he h1 h2
    have := congrArg (fun x => eb x e) h
    simp only [eb_set (show 6 ≤ 31 by decide), he, h1, h2, decide_true, Bool.true_and] at this
    exact this
  · intro h
    refine eSet_congr (fun e he => ?_)
    cases h1 : st.testBit e with
    | false => rfl
    | true =>
      cases h2 : eTn M e t with
      | false => rfl
      | true => rw [h e he h1 h2]
def eMt (M : rM) (st t s : Nat) : Nat := match eFd (fun m => decide (eWt M st t m = eWt M st t s)) s 0 with
  | none => s
  | some m => m
theorem eFd_none (p : Nat → Bool) (d k : Nat) (h : eFd p d k = none) : ∀ j, k ≤ j → j < k + d → p j = false := by
  induction d generalizing k with
  | zero => intro j h1 h2; omega
  | succ d ih =>
    unfold eFd at h
    split at h
    · cases h
    · rename_i hp
      intro j h1 h2
      by_cases hjk : j = k
      · subst hjk; simpa using hp
      · exact ih (k + 1) h j (by omega) (by omega)
theorem eFd_least (p : Nat → Bool) (d k a : Nat) (h : eFd p d k = some a) : ∀ j, k ≤ j → j < a → p j = false := by
  induction d generalizing k with
  | zero => cases h
  | succ d ih =>
    unfold eFd at h
    split at h
    · cases h; intro j h1 h2; omega
    · rename_i hp
      intro j h1 h2
      by_cases hjk : j = k
      · subst hjk; simpa using hp
      · exact ih (k + 1) h j (by omega) h2
theorem eMt_ok (M : rM) (st t s : Nat) : eMt M st t s ≤ s ∧ eWt M st t (eMt M st t s) = eWt M st t s ∧ ∀ m, m < eMt M st t s → eWt M st t m ≠ eWt M st t s := by
  unfold eMt
  cases h : eFd (fun m => decide (eWt M st t m = eWt M st t s)) s 0 with
  | none =>
    refine ⟨Nat.le_refl _, rfl, fun m hm => ?_⟩
    have := eFd_none _ _ _ h m (by omega) (by dsimp only at hm; omega)
    simpa using this
  | some a =>
    have h1 := eFd_ok _ _ _ _ h
    refine ⟨by dsimp only; omega, by simpa using h1.2.2, fun m hm => ?_⟩
    have := eFd_least _ _ _ _ h m (by omega) hm
    simpa using this
theorem eMt_inj (M : rM) (st t s s' : Nat) : eMt M st t s = eMt M st t s' ↔ eWt M st t s = eWt M st t s' := by
  obtain ⟨a1, a2, a3⟩ := eMt_ok M st t s
  obtain ⟨b1, b2, b3⟩ := eMt_ok M st t s'
  constructor
  · intro h; rw [← a2, ← b2, h]
  · intro h
    rcases Nat.lt_trichotomy (eMt M st t s) (eMt M st t s') with h1 | h1 | h1
    · exact absurd (by rw [a2, h]) (b3 _ h1)
    · exact h1
    · exact absurd (by rw [b2, h]) (a3 _ h1)
def ePl (M : rM) (st : Nat) (dx : Nat → Nat) : Nat → Nat
  | 0 => 0
  | t + 1 => 6 * ePl M st dx t + eMt M st t (dx t)
theorem ePl_ok (M : rM) (st : Nat) (dx : Nat → Nat) (h : ∀ t, dx t < 6) (t : Nat) : ePl M st dx t < 6 ^ t := by
  induction t with
  | zero => exact Nat.one_pos
  | succ t ih =>
    have := (eMt_ok M st t (dx t)).1
    have := h t
    rw [Nat.pow_succ]
    unfold ePl; omega
theorem ePl_inj (M : rM) (st : Nat) (dx dy : Nat → Nat) (hx : ∀ t, dx t < 6) (hy : ∀ t, dy t < 6) (t : Nat) : ePl M st dx t = ePl M st dy t ↔ ∀ u, u < t → eMt M st u (dx u) = eMt M st u (dy u) := by
  induction t with
  | zero => exact ⟨fun _ u hu => absurd hu (by omega), fun _ => rfl⟩
  | succ t ih =>
    have h1 := (eMt_ok M st t (dx t)).1
    have h2 := (eMt_ok M st t (dy t)).1
    have h3 := hx t
    have h4 := hy t
    unfold ePl
    constructor
    · intro h u hu
      by_cases hut : u = t
      · subst hut; omega
      · exact ih.mp (by omega) u (by omega)
    · intro h
      rw [ih.mpr (fun u hu => h u (by omega)), h t (by omega)]
theorem ePl_td (M : rM) (d st : Nat) (dx dy : Nat → Nat) (hx : ∀ t, dx t < 6) (hy : ∀ t, dy t < 6) : ePl M st dx d = ePl M st dy d ↔ eTd M d st dx 6 = eTd M d st dy 6 := by
  rw [ePl_inj M st dx dy hx hy, eTd_inj]
  constructor
  · intro h e he hs t ht hn
    exact (eWt_ok M st t (dx t) (dy t)).mp ((eMt_inj M st t (dx t) (dy t)).mp (h t ht)) e he hs hn
  · intro h t ht
    exact (eMt_inj M st t (dx t) (dy t)).mpr ((eWt_ok M st t (dx t) (dy t)).mpr (fun e he hs hn => h e he hs t ht hn))
theorem tell_c {t s st : Nat} {MC : cM} {MR : rM} (g8 : eG8 MC MR) (ht : t < 5) (hs : s < 6) (hst : st < 64) : m4_wouldTell (nI st) (nI t) (nI s) MC = some (eWt MR st t s, MC) := by
  unfold m4_wouldTell eWt
  refine eloop0 (fun f e => m4_wouldTell_6 f (nI st) (nI t) (nI s) (eSet e (fun e => st.testBit e && (eTn MR e t && eHe MR e s))) (nI e) MC = some (eSet 6 (fun e => st.testBit e && (eTn MR e t && eHe MR e s)), MC)) (m := 6) (k0 := 0) (by omega) ?_ ?_ (zfu_gt (by omega))
  · intro f
    simp only [m4_wouldTell_6, show ((6 : Int32) ≤ nI 6) = True from eq_true (by decide), zbd_s, zbv_s, zgd_t, Bool.and_true, Bool.true_and, Bool.and_self, if_true, if_false, e_01, eq_self, Bool.false_eq_true]
  · intro f e _ he ih
    have hl := (g8.2.2.2.1 (5 * e + t) (by omega)).1
    rw [eSet_s] at ih
    simp only [m4_wouldTell_6, m4_wouldTell_55, show ((6 : Int32) ≤ nI e) = False from eq_false (by rw [show (6 : Int32) = nI 6 from rfl, eI_le (by omega) (by omega)]; omega), zshr1_0 (show e < 32 by omega), eb_nI st e (by omega), logOf_e he ht, hl, earH_c g8 he hs, ei_1, ep1, zbd_s, zbv_s, zgd_t, Bool.and_true, Bool.true_and, Bool.and_self, if_true, if_false, e_01, eq_self, Bool.false_eq_true]
    cases c1 : st.testBit e with
    | false => simp only [c1, Bool.false_and, Bool.false_eq_true, if_false, if_true] at ih ⊢; exact ih
    | true =>
      simp only [c1, Bool.true_and, reduceCtorEq, if_false] at ih ⊢
      by_cases c2 : rg MR 1370 0 (5 * e + t) = 2
      · have c2' : eTn MR e t = true := by unfold eTn; exact decide_eq_true c2
        simp only [c2, c2', Bool.true_and, if_true] at ih ⊢
        cases c3 : eHe MR e s with
        | false => simp only [c3, Bool.false_eq_true, if_false, if_true] at ih ⊢; exact ih
        | true => simp only [c3, reduceCtorEq, if_false, if_true] at ih ⊢; exact ih
      · have c2' : eTn MR e t = false := by unfold eTn; exact decide_eq_false c2
        simp only [c2, c2', Bool.false_and, Bool.false_eq_true, if_false] at ih ⊢; exact ih
theorem match_c {d st : Nat} {MC : cM} {MR : rM} (g8 : eG8 MC MR) (h1 : cg MC 4 0 1 = nI d) (hd : d ≤ 5) (hst : st < 64) : ∃ MC', m4_matchSpots (nI st) MC = some MC' ∧ eF [507] MC MC' ∧ MC'.2 = MC.2 ∧ ∀ t s, t < d → s < 6 → cg MC' 507 0 (6 * t + s) = nI (eMt MR st t s) := by
  unfold m4_matchSpots
  refine eloop (σ := cM) (fun f t M => ∃ MC', m4_matchSpots_2 f (nI st) (nI t) M = some MC' ∧ eF [507] MC MC' ∧ MC'.2 = MC.2 ∧ ∀ t s, t < d → s < 6 → cg MC' 507 0 (6 * t + s) = nI (eMt MR st t s)) (fun t M => eF [507] MC M ∧ M.2 = MC.2 ∧ ∀ u s, u < t → s < 6 → cg M 507 0 (6 * u + s) = nI (eMt MR st u s)) (m := d) (k0 := 0) (by omega) ?_ ?_ (zfu_gt (by omega)) ⟨eF_refl, rfl, fun u s h => absurd h (by omega)⟩
  · rintro f M ⟨i1, i2, i3⟩
    have h1' : cg M 4 0 1 = nI d := by rw [i1 4 0 1 rfl, h1]
    simp only [m4_matchSpots_2, h1', eI_le (show d < 2 ^ 31 by omega) (show d < 2 ^ 31 by omega), show (d ≤ d) = True from eq_true (by omega), zbd_s, zbv_s, zgd_t, Bool.and_true, Bool.true_and, Bool.and_self, if_true, if_false, e_01, eq_self, Bool.false_eq_true]
    exact ⟨M, rfl, i1, i2, i3⟩
  · rintro f t M _ ht ⟨i1, i2, i3⟩ ih
    have h1' : cg M 4 0 1 = nI d := by rw [i1 4 0 1 rfl, h1]
    simp only [m4_matchSpots_2, h1', eI_le (show d < 2 ^ 31 by omega) (show t < 2 ^ 31 by omega), show (d ≤ t) = False from eq_false (by omega), show ((5 : Int32) ≤ nI t) = False from eq_false (by rw [show (5 : Int32) = nI 5 from rfl, eI_le (by omega) (by omega)]; omega), zbd_s, zbv_s, zgd_t, Bool.and_true, Bool.true_and, Bool.and_self, if_true, if_false, e_01, eq_self, Bool.false_eq_true]
    refine eloop (σ := cM) (fun f' s M' => ∃ MC', m4_matchSpots_17 (m4_matchSpots_2 f) f' (nI st) (nI t) (nI s) M' = some MC' ∧ eF [507] MC MC' ∧ MC'.2 = MC.2 ∧ ∀ t s, t < d → s < 6 → cg MC' 507 0 (6 * t + s) = nI (eMt MR st t s)) (fun s M' => eF [507] MC M' ∧ M'.2 = MC.2 ∧ (∀ u s, u < t → s < 6 → cg M' 507 0 (6 * u + s) = nI (eMt MR st u s)) ∧ ∀ v, v < s → cg M' 507 0 (6 * t + v) = nI (eMt MR st t v)) (m := 6) (k0 := 0) (by omega) ?_ ?_ (zfu_gt (by omega)) ⟨i1, i2, i3, fun v h => absurd h (by omega)⟩
    · rintro f' M' ⟨j1, j2, j3, j4⟩
      simp only [m4_matchSpots_17, show ((6 : Int32) ≤ nI 6) = True from eq_true (by decide), ep1, zbd_s, zbv_s, zgd_t, Bool.and_true, Bool.true_and, Bool.and_self, if_true, if_false, e_01, eq_self, Bool.false_eq_true]
      refine ih M' ⟨j1, j2, fun u s hu hs => ?_⟩
      by_cases hut : u = t
      · subst hut; exact j4 s hs
      · exact j3 u s (by omega) hs
    · rintro f' s M' _ hs ⟨j1, j2, j3, j4⟩ ih'
      have g8' : eG8 M' MR := eG8_fr g8 j1 (eH_refl (K := [])) (by unfold cp; rw [j2]; exact ⟨rfl, rfl⟩) rfl rfl
      have hml := (eMt_ok MR st t s).1
      have h56 : ∃ MC', m4_matchSpots_56 (m4_matchSpots_2 f) (m4_matchSpots_17 (m4_matchSpots_2 f) f') (nI st) (nI t) (nI s) (nI (eMt MR st t s)) M' = some MC' ∧ eF [507] MC MC' ∧ MC'.2 = MC.2 ∧ ∀ t s, t < d → s < 6 → cg MC' 507 0 (6 * t + s) = nI (eMt MR st t s) := by
        unfold m4_matchSpots_56
        simp only [e6, eI_add, ezin_nI (show 6 * t + s < 30 by omega) (show 30 < 2 ^ 31 by decide), ex_nI (show 6 * t + s < 2 ^ 31 by omega), ep1, zbd_s, zbv_s, zgd_t, Bool.and_true, Bool.true_and, Bool.and_self, if_true, if_false, e_01, eq_self, Bool.false_eq_true]
        refine ih' _ ⟨eF_cs j1 rfl, j2, fun u v hu hv => ?_, fun v hv => ?_⟩
        · rw [cg_cs, if_neg (by omega)]; exact j3 u v hu hv
        · by_cases hvs : v = s
          · subst hvs; simp [cg_cs]
          · rw [cg_cs, if_neg (by omega)]; exact j4 v (by omega)
      simp only [m4_matchSpots_17, show ((6 : Int32) ≤ nI s) = False from eq_false (by rw [show (6 : Int32) = nI 6 from rfl, eI_le (by omega) (by omega)]; omega), zbd_s, zbv_s, zgd_t, Bool.and_true, Bool.true_and, Bool.and_self, if_true, if_false, e_01, eq_self, Bool.false_eq_true]
      refine eloop0 (fun f'' k => eMt MR st t s = (match eFd (fun m => decide (eWt MR st t m = eWt MR st t s)) (s - k) k with
        | none => s
        | some m => m) → ∃ MC', m4_matchSpots_26 (m4_matchSpots_2 f) (m4_matchSpots_17 (m4_matchSpots_2 f) f') f'' (nI st) (nI t) (nI s) (nI k) M' = some MC' ∧ eF [507] MC MC' ∧ MC'.2 = MC.2 ∧ ∀ t s, t < d → s < 6 → cg MC' 507 0 (6 * t + s) = nI (eMt MR st t s)) (m := s) (k0 := 0) (by omega) ?_ ?_ (zfu_gt (by omega)) rfl
      · intro f'' he
        rw [Nat.sub_self] at he
        have he' : eMt MR st t s = s := he
        rw [he'] at h56
        simp only [m4_matchSpots_26, eI_le (show s < 2 ^ 31 by omega) (show s < 2 ^ 31 by omega), show (s ≤ s) = True from eq_true (by omega), zbd_s, zbv_s, zgd_t, Bool.and_true, Bool.true_and, Bool.and_self, if_true, if_false, e_01, eq_self, Bool.false_eq_true]
        exact h56
      · intro f'' k _ hk ihk he
        rw [show s - k = (s - (k + 1)) + 1 by omega] at he
        unfold eFd at he
        simp only [m4_matchSpots_26, eI_le (show s < 2 ^ 31 by omega) (show k < 2 ^ 31 by omega), show (s ≤ k) = False from eq_false (by omega), tell_c g8' (show t < 5 by omega) (show k < 6 by omega) hst, tell_c g8' (show t < 5 by omega) hs hst, ep1, zbd_s, zbv_s, zgd_t, Bool.and_true, Bool.true_and, Bool.and_self, if_true, if_false, e_01, eq_self, Bool.false_eq_true]
        by_cases c : eWt MR st t k = eWt MR st t s
        · simp only [c, decide_true, if_true] at he ⊢
          rw [he] at h56; exact h56
        · simp only [c, decide_false, Bool.false_eq_true, if_false] at he ⊢
          exact ihk he
theorem place_c {d st x : Nat} {M : cM} {MR : rM} (h1 : cg M 4 0 1 = nI d) (hd : d ≤ 5) (hx : x < 2 ^ 31) (hm : ∀ t s, t < d → s < 6 → cg M 507 0 (6 * t + s) = nI (eMt MR st t s)) : m4_heardPlace (nI x) M = some (nI (ePl MR st (eDg d x) d), M) := by
  unfold m4_heardPlace
  refine eloop0 (fun f t => m4_heardPlace_4 f (nI x) (nI (ePl MR st (eDg d x) t)) (nI t) M = some (nI (ePl MR st (eDg d x) d), M)) (m := d) (k0 := 0) (by omega) ?_ ?_ (zfu_gt (by omega))
  · intro f
    simp only [m4_heardPlace_4, h1, eI_le (show d < 2 ^ 31 by omega) (show d < 2 ^ 31 by omega), show (d ≤ d) = True from eq_true (by omega), zbd_s, zbv_s, zgd_t, Bool.and_true, Bool.true_and, Bool.and_self, if_true, if_false, e_01, eq_self, Bool.false_eq_true]
  · intro f t _ ht ih
    have hdl := eDg_lt d x t
    simp only [m4_heardPlace_4, h1, eI_le (show d < 2 ^ 31 by omega) (show t < 2 ^ 31 by omega), show (d ≤ t) = False from eq_false (by omega), show ((5 : Int32) ≤ nI t) = False from eq_false (by rw [show (5 : Int32) = nI 5 from rfl, eI_le (by omega) (by omega)]; omega), spot_c h1 hd ht hx, e6, eI_add, ezin_nI (show 6 * t + eDg d x t < 30 by omega) (show 30 < 2 ^ 31 by decide), ex_nI (show 6 * t + eDg d x t < 2 ^ 31 by omega), hm t _ ht hdl, ep1, zbd_s, zbv_s, zgd_t, Bool.and_true, Bool.true_and, Bool.and_self, if_true, if_false, e_01, eq_self, Bool.false_eq_true]
    exact ih
