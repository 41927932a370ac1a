/-! a row of 16384 places, looked through from a place on -/
def eHs (v : Nat) : Nat := v % 2 ^ 30 % 16381
theorem hs_e {v : Nat} : zrem (nI v &&& 1073741823) 16381 = nI (eHs v) := by
  rw [show (1073741823 : Int32) = nI 1073741823 from rfl, eI_and, show (1073741823 : Nat) = 2 ^ 30 - 1 from rfl, Nat.and_two_pow_sub_one_eq_mod, show (16381 : Int32) = nI 16381 from rfl, zrem_nI (Nat.lt_of_lt_of_le (Nat.mod_lt _ (by decide)) (by decide)) (by decide) (by decide)]
  rfl
theorem hs_lt (v : Nat) : eHs v < 16384 := Nat.lt_of_lt_of_le (Nat.mod_lt _ (by decide)) (by decide)
/-- K: keys, S: marks; vs, ss: what was put in, i of them -/
def eHt (K : Nat → Nat) (S : Nat → Bool) (vs : Nat → Nat) (ss : Nat → Bool) (i : Nat) : Prop := (∀ j, j < 16384 → K j = 0 ∨ ∃ k, k < i ∧ vs k = K j ∧ ss k = S j) ∧ (∀ k, k < i → ∃ q, q < 16384 ∧ K ((eHs (vs k) + q) % 16384) = vs k ∧ S ((eHs (vs k) + q) % 16384) = ss k ∧ ∀ r, r < q → K ((eHs (vs k) + r) % 16384) ≠ 0 ∧ K ((eHs (vs k) + r) % 16384) ≠ vs k) ∧ eNum 16384 (fun j => !(decide (K j = 0))) ≤ i ∧ ∀ k j, k < i → j < i → vs k = vs j → ss k = ss j
theorem eNum_all {n : Nat} {p : Nat → Bool} (h : ∀ j, j < n → p j = true) : eNum n p = n := by
  induction n with
  | zero => rfl
  | succ n ih => rw [eNum_s, ih (fun j hj => h j (by omega)), h n (by omega)]; rfl
theorem eNum_upd {n b : Nat} {p q : Nat → Bool} (h : ∀ k, k < n → k ≠ b → q k = p k) : eNum n q ≤ eNum n p + 1 := by
  induction n with
  | zero => exact Nat.zero_le _
  | succ n ih =>
    rw [eNum_s, eNum_s]
    by_cases hbn : b = n
    · subst hbn
      rw [eNum_congr (q := p) (fun j hj => h j (by omega) (by omega))]
      split <;> split <;> omega
    · have := ih (fun k hk hne => h k (by omega) hne)
      rw [h n (by omega) (by omega)]
      split <;> omega
/-- there is a place where the looking stops -/
theorem ht_stop {K : Nat → Nat} {i h v : Nat} (hi : i < 16384) (hc : eNum 16384 (fun j => !(decide (K j = 0))) ≤ i) (hh : h < 16384) : ∃ q, q < 16384 ∧ (K ((h + q) % 16384) = 0 ∨ K ((h + q) % 16384) = v) ∧ ∀ r, r < q → K ((h + r) % 16384) ≠ 0 ∧ K ((h + r) % 16384) ≠ v := by
  have hz : ∃ j, j < 16384 ∧ K j = 0 := by
    apply Classical.byContradiction
    intro hn
    have : eNum 16384 (fun j => !(decide (K j = 0))) = 16384 := eNum_all (fun j hj => by
      have : ¬ K j = 0 := fun h => hn ⟨j, hj, h⟩
      simp [this])
    omega
  obtain ⟨j, hj, hj0⟩ := hz
  have hq : ∃ q, q < 16384 ∧ (h + q) % 16384 = j := by
    by_cases hjh : h ≤ j
    · exact ⟨j - h, by omega, by omega⟩
    · exact ⟨j + 16384 - h, by omega, by omega⟩
  obtain ⟨q0, hq0, hq1⟩ := hq
  have key : ∀ n, n < 16384 → (K ((h + n) % 16384) = 0 ∨ K ((h + n) % 16384) = v) → ∃ q, q < 16384 ∧ (K ((h + q) % 16384) = 0 ∨ K ((h + q) % 16384) = v) ∧ ∀ r, r < q → K ((h + r) % 16384) ≠ 0 ∧ K ((h + r) % 16384) ≠ v := by
    intro n
    induction n using Nat.strongRecOn with
    | _ n ih =>
      intro hn hK
      by_cases hex : ∃ r, r < n ∧ (K ((h + r) % 16384) = 0 ∨ K ((h + r) % 16384) = v)
      · obtain ⟨r, r1, r2⟩ := hex
        exact ih r r1 (by omega) r2
      · refine ⟨n, hn, hK, fun r hr => ⟨fun h0 => hex ⟨r, hr, .inl h0⟩, fun h0 => hex ⟨r, hr, .inr h0⟩⟩⟩
  exact key q0 hq0 (.inl (by rw [hq1]; exact hj0))
/-- what is found there: nothing of the kind, or one that was put in -/
theorem ht_found {K : Nat → Nat} {S : Nat → Bool} {vs : Nat → Nat} {ss : Nat → Bool} {i q : Nat} {v : Nat} (hv : v ≠ 0) (h : eHt K S vs ss i) (hq : q < 16384) (h2 : ∀ r, r < q → K ((eHs v + r) % 16384) ≠ 0 ∧ K ((eHs v + r) % 16384) ≠ v) : ∀ k, k < i → vs k = v → (K ((eHs v + q) % 16384) = 0 ∨ K ((eHs v + q) % 16384) = v) → K ((eHs v + q) % 16384) = v ∧ S ((eHs v + q) % 16384) = ss k := by
  intro k hk hvk hst
  obtain ⟨q', a1, a2, a3, a4⟩ := h.2.1 k hk
  rw [hvk] at a2 a3 a4
  have : q' = q := by
    rcases Nat.lt_trichotomy q' q with hlt | he | hgt
    · exact absurd a2 (h2 q' hlt).2
    · exact he
    · rcases hst with h0 | h0
      · exact absurd h0 (a4 q hgt).1
      · exact absurd h0 (a4 q hgt).2
  subst this
  exact ⟨a2, a3⟩
theorem ht_put {K : Nat → Nat} {S : Nat → Bool} {vs : Nat → Nat} {ss : Nat → Bool} {i q : Nat} (hv : ∀ k, k ≤ i → vs k ≠ 0) (h : eHt K S vs ss i) (hq : q < 16384) (hst : K ((eHs (vs i) + q) % 16384) = 0 ∨ K ((eHs (vs i) + q) % 16384) = vs i ∧ S ((eHs (vs i) + q) % 16384) = ss i) (h2 : ∀ r, r < q → K ((eHs (vs i) + r) % 16384) ≠ 0 ∧ K ((eHs (vs i) + r) % 16384) ≠ vs i) {K' : Nat → Nat} {S' : Nat → Bool} (hK : ∀ j, j < 16384 → K' j = if j = (eHs (vs i) + q) % 16384 then vs i else K j) (hS : ∀ j, j < 16384 → S' j = if j = (eHs (vs i) + q) % 16384 then ss i else S j) : eHt K' S' vs ss (i + 1) := by
  have hpl : (eHs (vs i) + q) % 16384 < 16384 := Nat.mod_lt _ (by decide)
  have hml : ∀ a, a % 16384 < 16384 := fun a => Nat.mod_lt _ (by decide)
  have hfound := ht_found (v := vs i) (hv i (Nat.le_refl _)) h hq h2
  obtain ⟨i1, i2, i3, i4⟩ := h
  have hcf : ∀ k, k < i → vs k = vs i → ss k = ss i := by
    intro k hk hki
    rcases hst with h0 | ⟨h0, h1⟩
    · have := (hfound k hk hki (.inl h0)).1
      rw [h0] at this
      exact absurd this.symm (hv i (Nat.le_refl _))
    · have := (hfound k hk hki (.inr h0)).2
      rw [h1] at this; exact this.symm
  refine ⟨fun j hj => ?_, fun k hk => ?_, ?_, fun k j hk hj hkj => ?_⟩
  · rw [hK j hj, hS j hj]
    by_cases hjp : j = (eHs (vs i) + q) % 16384
    · right; exact ⟨i, by omega, by rw [if_pos hjp], by rw [if_pos hjp]⟩
    · rw [if_neg hjp, if_neg hjp]
      rcases i1 j hj with h0 | ⟨k, k1, k2, k3⟩
      · exact .inl h0
      · exact .inr ⟨k, by omega, k2, k3⟩
  · by_cases hki : k = i
    · subst hki
      refine ⟨q, hq, by rw [hK _ hpl, if_pos rfl], by rw [hS _ hpl, if_pos rfl], fun r hr => ?_⟩
      have hne : (eHs (vs k) + r) % 16384 ≠ (eHs (vs k) + q) % 16384 := by
        have := hs_lt (vs k); omega
      rw [hK _ (hml _), if_neg hne]; exact h2 r hr
    · obtain ⟨q', a1, a2, a3, a4⟩ := i2 k (by omega)
      have hk0 := hv k (by omega)
      refine ⟨q', a1, ?_, ?_, fun r hr => ?_⟩
      · rw [hK _ (hml _)]
        split
        · rename_i he
          rcases hst with h0 | ⟨h0, -⟩
          · rw [← he, a2] at h0; exact absurd h0 hk0
          · rw [← he, a2] at h0; exact h0.symm
        · exact a2
      · rw [hS _ (hml _)]
        split
        · rename_i he
          rcases hst with h0 | ⟨h0, h1⟩
          · rw [← he, a2] at h0; exact absurd h0 hk0
          · rw [← he, a3] at h1; exact h1.symm
        · exact a3
      · rw [hK _ (hml _)]
        have := a4 r hr
        split
        · rename_i he
          rw [he] at this
          rcases hst with h0 | ⟨h0, -⟩
          · exact absurd h0 this.1
          · rw [h0] at this; exact this
        · exact this
  · have : eNum 16384 (fun j => !(decide (K' j = 0))) ≤ eNum 16384 (fun j => !(decide (K j = 0))) + 1 := eNum_upd (b := (eHs (vs i) + q) % 16384) (fun k hk hne => by rw [hK k hk, if_neg hne])
    omega
  · by_cases hki : k = i
    · by_cases hji : j = i
      · subst hki; subst hji; rfl
      · subst hki; exact (hcf j (by omega) hkj.symm).symm
    · by_cases hji : j = i
      · subst hji; exact hcf k (by omega) hkj
      · exact i4 k j (by omega) (by omega) hkj
