theorem cg_cps (M : cM) (k i s v k' i' s' : Nat) : cg (cps M k i s v) k' i' s' = cg M k' i' s' := by
  have h : cg (cps M k i s v) k' i' s' = cg M k' i' s' := rfl
  exact h.trans rfl
theorem cp_cps (M : cM) (k i s v k' i' s' : Nat) : cp (cps M k i s v) k' i' s' = if k' = k ∧ i' = i ∧ s' = s then v else cp M k' i' s' := by
  have h : cp (cps M k i s v) k' i' s' = if k' = k ∧ i' = i ∧ s' = s then v else cp M k' i' s' := rfl
  exact h.trans rfl
def ePq (M : cM) : Prop := cp M 4 0 8 = 0 ∧ cp M 4 0 9 = 1 ∨ cp M 4 0 8 = 1 ∧ cp M 4 0 9 = 0
theorem eG8_fr2 {MC MC' : cM} {MR MR' : rM} (h : eG8 MC MR) {K K' : List Nat} (hC : eF K MC MC') (hR : eH K' MR MR') (hP : ePq MC') (d : eDj K [10401, 10402, 503, 504, 505] = true) (d' : eDj K' [11267, 11271, 1368, 1369, 1370] = true) : eG8 MC' MR' := by
  unfold eG8 at *
  simp only [eF_at hC d 4 0 1 rfl, eF_at hC d 4 0 2 rfl, fun j => eF_at hC d 503 0 j rfl, fun j => eF_at hC d 504 0 j rfl, fun j => eF_at hC d 505 0 j rfl, eH_at hR d' 12 0 67 rfl, eH_at hR d' 12 0 71 rfl, fun j => eH_at hR d' 1368 0 j rfl, fun j => eH_at hR d' 1369 0 j rfl, fun j => eH_at hR d' 1370 0 j rfl]
  exact ⟨h.1, h.2.1, h.2.2.1, h.2.2.2.1, h.2.2.2.2.1, hP⟩
def eMn (f : Nat → Nat) (p : Nat → Bool) : Nat → Nat
  | 0 => 100
  | k + 1 => if p k then (if f k < eMn f p k then f k else eMn f p k) else eMn f p k
theorem eMn_s (f : Nat → Nat) (p : Nat → Bool) (k : Nat) : eMn f p (k + 1) = if p k then (if f k < eMn f p k then f k else eMn f p k) else eMn f p k := rfl
theorem eMn_le (f : Nat → Nat) (p : Nat → Bool) (k A : Nat) (hA : A < 100) : eMn f p k ≤ A ↔ ∃ j, j < k ∧ p j = true ∧ f j ≤ A := by
  induction k with
  | zero => exact ⟨fun h => by have : (100 : Nat) ≤ A := h; omega, fun ⟨j, h, _⟩ => absurd h (by omega)⟩
  | succ k ih =>
    rw [eMn_s]
    constructor
    · intro h
      split at h
      · rename_i hp
        split at h
        · exact ⟨k, by omega, hp, h⟩
        · obtain ⟨j, h1, h2⟩ := ih.mp h; exact ⟨j, by omega, h2⟩
      · obtain ⟨j, h1, h2⟩ := ih.mp h; exact ⟨j, by omega, h2⟩
    · rintro ⟨j, h1, h2, h3⟩
      by_cases hjk : j = k
      · subst hjk
        rw [if_pos h2]
        split <;> omega
      · have := ih.mpr ⟨j, by omega, h2, h3⟩
        split
        · split <;> omega
        · exact this
theorem eMn_100 (f : Nat → Nat) (p : Nat → Bool) (k : Nat) : eMn f p k ≤ 100 := by
  induction k with
  | zero => exact Nat.le_refl _
  | succ k ih => rw [eMn_s]; split; split <;> omega; exact ih
def eE (M : rM) (w : Int32) : Nat → Nat → Nat
  | 0, s => eMis M w 0 s
  | t + 1, s => eMn (eE M w t) (fun a => eGo M a s) 6 + eMis M w (t + 1) s
theorem eE_le (M : rM) (w : Int32) (t s : Nat) : eE M w t s ≤ 200 := by
  cases t with
  | zero => have := eMis_le M w 0 s; unfold eE; omega
  | succ t =>
    have := eMis_le M w (t + 1) s
    have := eMn_100 (eE M w t) (fun a => eGo M a s) 6
    unfold eE; omega
theorem eE_ok (M : rM) (w : Int32) (t s A : Nat) (hs : s < 6) (hA : A < 100) : eE M w t s ≤ A ↔ ∃ c, c < 6 ^ (t + 1) ∧ c % 6 = s ∧ eTo M w (t + 1) c ≤ A := by
  induction t generalizing s A with
  | zero =>
    have e1 : ∀ c, eTo M w (0 + 1) c = eMis M w 0 (c % 6) := by
      intro c; rw [eTo_s]; show 0 + eMis M w 0 (c % 6) + 0 = _; omega
    constructor
    · intro h
      exact ⟨s, by omega, by omega, by rw [e1, show s % 6 = s by omega]; exact h⟩
    · rintro ⟨c, h1, h2, h3⟩
      rw [e1, h2] at h3; exact h3
  | succ t ih =>
    have hun : eE M w (t + 1) s = eMn (eE M w t) (fun a => eGo M a s) 6 + eMis M w (t + 1) s := rfl
    rw [hun]
    constructor
    · intro h
      obtain ⟨a, a1, a2, a3⟩ := (eMn_le (eE M w t) (fun a => eGo M a s) 6 (A - eMis M w (t + 1) s) (by omega)).mp (by omega)
      obtain ⟨c, c1, c2, c3⟩ := (ih a (A - eMis M w (t + 1) s) a1 (by omega)).mp a3
      refine ⟨6 * c + s, by rw [Nat.pow_succ]; omega, by omega, ?_⟩
      rw [eTo_s, show (6 * c + s) / 6 = c by omega, show (6 * c + s) % 6 = s by omega, c2, a2, Bool.or_true, if_pos rfl]
      omega
    · rintro ⟨c, c1, c2, c3⟩
      rw [eTo_s, c2] at c3
      have hg : eGo M (c / 6 % 6) s = true := by
        cases hg : eGo M (c / 6 % 6) s with
        | true => rfl
        | false =>
          rw [hg, show decide (t + 1 = 0) = false from decide_eq_false (by omega)] at c3
          simp at c3; omega
      rw [hg, Bool.or_true, if_pos rfl] at c3
      have h1 := (ih (c / 6 % 6) (A - eMis M w (t + 1) s) (Nat.mod_lt _ (by decide)) (by omega)).mpr ⟨c / 6, by rw [Nat.pow_succ] at c1; omega, rfl, by omega⟩
      have h2 := (eMn_le (eE M w t) (fun a => eGo M a s) 6 (A - eMis M w (t + 1) s) (by omega)).mpr ⟨c / 6 % 6, Nat.mod_lt _ (by decide), hg, h1⟩
      omega
/-- whether some course agrees without w -/
def eAny (M : rM) (w : Int32) (A d : Nat) : Bool := decide (eMn (eE M w (d - 1)) (fun _ => true) 6 ≤ A)
theorem eAny_ok (M : rM) (w : Int32) {A d : Nat} (hA : A < 100) (hd : 1 ≤ d) : eAny M w A d = true ↔ ∃ c, c < 6 ^ d ∧ eTo M w d c ≤ A := by
  obtain ⟨d', rfl⟩ : ∃ d', d = d' + 1 := ⟨d - 1, by omega⟩
  unfold eAny
  rw [decide_eq_true_eq, Nat.add_sub_cancel, eMn_le _ _ _ _ hA]
  constructor
  · rintro ⟨s, h1, -, h2⟩
    obtain ⟨c, c1, c2, c3⟩ := (eE_ok M w d' s A h1 hA).mp h2
    exact ⟨c, c1, c3⟩
  · rintro ⟨c, c1, c2⟩
    exact ⟨c % 6, Nat.mod_lt _ (by decide), rfl, (eE_ok M w d' (c % 6) A (Nat.mod_lt _ (by decide)) hA).mpr ⟨c, c1, rfl, c2⟩⟩
theorem around_c {s q : Nat} {MC : cM} {MR : rM} {f : Nat → Nat} (g8 : eG8 MC MR) (hs : s < 6) (hq : cp MC 4 0 8 = q) (hq2 : q < 2) (hf : ∀ a, a < 6 → f a ≤ 200 ∧ cg MC 508 q a = nI (f a)) : m4_leastAround (nI s) MC = some (nI (eMn f (fun a => eGo MR a s) 6), MC) := by
  unfold m4_leastAround
  refine eloop0 (fun fu k => m4_leastAround_5 fu (nI s) (nI (eMn f (fun a => eGo MR a s) k)) (nI k) MC = some (nI (eMn f (fun a => eGo MR a s) 6), MC)) (m := 6) (k0 := 0) (by omega) ?_ ?_ (zfu_gt (by omega))
  · intro fu
    simp only [m4_leastAround_5, show ((6 : Int32) ≤ nI 6) = True from eq_true (by decide), zbd_s, zbv_s, zgd_t, Bool.and_true, Bool.true_and, Bool.and_self, if_true, if_false, e_01, eq_self, Bool.false_eq_true]
  · intro fu k _ hk ih
    have h1 := eMn_100 f (fun a => eGo MR a s) k
    have h2 := hf k hk
    rw [eMn_s] at ih
    simp only [m4_leastAround_5, m4_leastAround_31, mJ9_min, show ((6 : Int32) ≤ nI k) = False from eq_false (by rw [show (6 : Int32) = nI 6 from rfl, eI_le (by omega) (by omega)]; omega), go_c g8 hk hs, hq, blt_t hq2, ezin_nI (show k < 6 by omega) (show 6 < 2 ^ 31 by decide), ex_nI (show k < 2 ^ 31 by omega), h2.2, eI_lt (show f k < 2 ^ 31 by omega) (show eMn f (fun a => eGo MR a s) k < 2 ^ 31 by omega), ei_1, ep1, zbd_s, zbv_s, zgd_t, Bool.and_true, Bool.true_and, Bool.and_self, if_true, if_false, e_01, eq_self, Bool.false_eq_true]
    cases c1 : eGo MR k s with
    | false => simp only [c1, Bool.false_eq_true, if_false, if_true] at ih ⊢; exact ih
    | true =>
      simp only [c1, if_true, reduceCtorEq, if_false] at ih ⊢
      by_cases c2 : f k < eMn f (fun a => eGo MR a s) k
      · simp only [c2, if_true, zbd_s] at ih ⊢; exact ih
      · simp only [c2, if_false, zbd_s] at ih ⊢; exact ih
