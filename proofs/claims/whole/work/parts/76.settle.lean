/-! settled: what torn logs would tell -/
def eTn (M : rM) (e t : Nat) : Bool := decide (rg M 1370 0 (5 * e + t) = 2)
/-- x and y are heard alike -/
def eAl (M : rM) (d st : Nat) (dx dy : Nat → Nat) : Prop := ∀ e, e < 6 → st.testBit e = true → ∀ t, t < d → eTn M e t = true → eHe M e (dx t) = eHe M e (dy t)
def eTi (M : rM) (dx : Nat → Nat) (e : Nat) : Nat → Nat → Nat
  | 0, v => v
  | t + 1, v => if eTn M e t then 2 * eTi M dx e t v + (if eHe M e (dx t) then 1 else 0) else eTi M dx e t v
theorem eTi_s (M : rM) (dx : Nat → Nat) (e t v : Nat) : eTi M dx e (t + 1) v = if eTn M e t then 2 * eTi M dx e t v + (if eHe M e (dx t) then 1 else 0) else eTi M dx e t v := rfl
def eTd (M : rM) (d st : Nat) (dx : Nat → Nat) : Nat → Nat
  | 0 => 1
  | e + 1 => if st.testBit e then eTi M dx e d (eTd M d st dx e) else eTd M d st dx e
theorem eTi_inj (M : rM) (dx dy : Nat → Nat) (e t v v' : Nat) : eTi M dx e t v = eTi M dy e t v' ↔ v = v' ∧ ∀ u, u < t → eTn M e u = true → eHe M e (dx u) = eHe M e (dy u) := by
  induction t with
  | zero => exact ⟨fun h => ⟨h, fun u hu => absurd hu (by omega)⟩, fun h => h.1⟩
  | succ t ih =>
    unfold eTi
    cases hn : eTn M e t with
    | false =>
      simp only [Bool.false_eq_true, if_false]
      rw [ih]
      refine ⟨fun h => ⟨h.1, fun u hu hu2 => ?_⟩, fun h => ⟨h.1, fun u hu => h.2 u (by omega)⟩⟩
      by_cases hut : u = t
      · subst hut; rw [hn] at hu2; cases hu2
      · exact h.2 u (by omega) hu2
    | true =>
      simp only [if_true]
      constructor
      · intro h
        have h1 : eTi M dx e t v = eTi M dy e t v' := by split at h <;> split at h <;> omega
        obtain ⟨h2, h3⟩ := ih.mp h1
        refine ⟨h2, fun u hu hu2 => ?_⟩
        by_cases hut : u = t
        · subst hut
          cases c1 : eHe M e (dx u) <;> cases c2 : eHe M e (dy u) <;> simp only [c1, c2, if_true, Bool.false_eq_true, if_false] at h <;> first | rfl | omega
        · exact h3 u (by omega) hu2
      · rintro ⟨h1, h2⟩
        rw [ih.mpr ⟨h1, fun u hu => h2 u (by omega)⟩, h2 t (by omega) hn]
theorem eTd_inj (M : rM) (d st : Nat) (dx dy : Nat → Nat) (n : Nat) : eTd M d st dx n = eTd M d st dy n ↔ ∀ e, e < n → st.testBit e = true → ∀ t, t < d → eTn M e t = true → eHe M e (dx t) = eHe M e (dy t) := by
  induction n with
  | zero => exact ⟨fun _ e he => absurd he (by omega), fun _ => rfl⟩
  | succ n ih =>
    unfold eTd
    cases hb : st.testBit n with
    | false =>
      simp only [Bool.false_eq_true, if_false]
      rw [ih]
      refine ⟨fun h e he hs => ?_, fun h e he => h e (by omega)⟩
      by_cases hen : e = n
      · subst hen; rw [hb] at hs; cases hs
      · exact h e (by omega) hs
    | true =>
      simp only [if_true]
      rw [eTi_inj, ih]
      refine ⟨fun h e he hs => ?_, fun h => ⟨fun e he => h e (by omega), h n (by omega) hb⟩⟩
      by_cases hen : e = n
      · subst hen; exact h.2
      · exact h.1 e (by omega) hs
theorem eTi_lt (M : rM) (dx : Nat → Nat) (e t v k : Nat) (h : 1 ≤ v ∧ v < 2 ^ k) : 1 ≤ eTi M dx e t v ∧ eTi M dx e t v < 2 ^ (k + t) := by
  induction t with
  | zero => exact h
  | succ t ih =>
    unfold eTi
    rw [show k + (t + 1) = (k + t) + 1 by omega, Nat.pow_succ]
    split
    · split <;> omega
    · omega
theorem eTd_lt (M : rM) (d st : Nat) (dx : Nat → Nat) (hd : d ≤ 5) (n : Nat) : 1 ≤ eTd M d st dx n ∧ eTd M d st dx n < 2 ^ (1 + 5 * n) := by
  induction n with
  | zero => exact ⟨Nat.le_refl _, by show 1 < 2 ^ (1 + 5 * 0); decide⟩
  | succ n ih =>
    unfold eTd
    split
    · have := eTi_lt M dx n d _ _ ih
      refine ⟨this.1, Nat.lt_of_lt_of_le this.2 (Nat.pow_le_pow_right (by decide) (by omega))⟩
    · exact ⟨ih.1, Nat.lt_of_lt_of_le ih.2 (Nat.pow_le_pow_right (by decide) (by omega))⟩
theorem told_e {d x st : Nat} {M : rM} (h67 : rg M 12 0 67 = nI d) (hd : d ≤ 5) (hx : x < 2 ^ 31) (hst : st < 64) : m12_told (nI x) (nI st) M = some (nI (eTd M d st (eDg d x) 6), M) := by
  unfold m12_told
  refine eloop0 (fun f e => m12_told_5 f (nI x) (nI st) (nI (eTd M d st (eDg d x) e)) (nI e) M = some (nI (eTd M d st (eDg d x) 6), M)) (m := 6) (k0 := 0) (by omega) ?_ ?_ (zfu_gt (by omega))
  · intro f
    simp only [m12_told_5, show ((6 : Int32) ≤ nI 6) = True from eq_true (by decide), zbd_s, zbv_s, zgd_t, Bool.and_true, Bool.true_and, Bool.and_self, if_true, if_false, e_01, eq_self, Bool.false_eq_true]
  · intro f e _ he ih
    simp only [m12_told_5, show ((6 : Int32) ≤ nI e) = False from eq_false (by rw [show (6 : Int32) = nI 6 from rfl, eI_le (by omega) (by omega)]; omega), zbd_s, zbv_s, zgd_t, Bool.and_true, Bool.true_and, Bool.and_self, if_true, if_false, e_01, eq_self, Bool.false_eq_true]
    cases hb : st.testBit e with
    | false =>
      have hun : eTd M d st (eDg d x) (e + 1) = eTd M d st (eDg d x) e := by rw [eTd]; simp [hb]
      rw [hun] at ih
      have : ∀ f', m12_told_15 (m12_told_5 f) (f' + 1) (nI x) (nI st) (nI (eTd M d st (eDg d x) e)) (nI e) 0 M = some (nI (eTd M d st (eDg d x) 6), M) := by
        intro f'
        simp only [m12_told_15, m12_told_89, h67, isIn_y (show e < 32 by omega), eb_nI st e (by omega), hb, ep1, Bool.false_eq_true, if_false, zbd_s, if_true]
        split <;> exact ih
      exact this 99999
    | true =>
      have hun : eTd M d st (eDg d x) (e + 1) = eTi M (eDg d x) e d (eTd M d st (eDg d x) e) := by rw [eTd]; simp [hb]
      rw [hun] at ih
      refine eloop0 (fun f' t => m12_told_15 (m12_told_5 f) f' (nI x) (nI st) (nI (eTi M (eDg d x) e t (eTd M d st (eDg d x) e))) (nI e) (nI t) M = some (nI (eTd M d st (eDg d x) 6), M)) (m := d) (k0 := 0) (by omega) ?_ ?_ (zfu_gt (by omega))
      · intro f'
        simp only [m12_told_15, m12_told_89, h67, eI_le (show d < 2 ^ 31 by omega) (show d < 2 ^ 31 by omega), show (d ≤ d) = True from eq_true (by omega), ep1, zbd_s, zbv_s, zgd_t, Bool.and_true, Bool.true_and, Bool.and_self, if_true, if_false, e_01, eq_self, Bool.false_eq_true]
        exact ih
      · intro f' t _ ht iht
        have hdl := eDg_lt d x t
        have hH : eb (rg M 1369 0 e) (eDg d x t) = eHe M e (eDg d x t) := rfl
        rw [← iht]
        simp only [m12_told_15, m12_told_77, m12_told_82, h67, eI_le (show d < 2 ^ 31 by omega) (show t < 2 ^ 31 by omega), show (d ≤ t) = False from eq_false (by omega), isIn_y (show e < 32 by omega), isIn_y (show eDg d x t < 32 by omega), eb_nI st e (by omega), hb, hH, e5, eI_add, ezin_nI (show 5 * e + t < 30 by omega) (show 30 < 2 ^ 31 by decide), ex_nI (show 5 * e + t < 2 ^ 31 by omega), ezin_nI (show e < 6 by omega) (show 6 < 2 ^ 31 by decide), ex_nI (show e < 2 ^ 31 by omega), spot_e h67 hd ht hx, ei_1, ep1, show (2 : Int32) = nI 2 from rfl, eI_mul, zbd_s, zbv_s, zgd_t, Bool.and_true, Bool.true_and, Bool.and_self, if_true, if_false, e_01, eq_self, Bool.false_eq_true]
        rw [eTi_s]
        by_cases c1 : rg M 1370 0 (5 * e + t) = nI 2
        · have c1' : eTn M e t = true := by unfold eTn; exact decide_eq_true c1
          cases c2 : eHe M e (eDg d x t) <;> simp [c1, c1', c2, Int32.add_zero, ep1]
        · have c1' : eTn M e t = false := by unfold eTn; exact decide_eq_false c1
          simp [c1, c1']
