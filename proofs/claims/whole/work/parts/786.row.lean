/-! a row without its sums -/
def eCmp (f : Nat → Int32) : Nat → List Int32
  | 0 => []
  | k + 1 => if f k = -1 then eCmp f k else eCmp f k ++ [f k]
theorem eCmp_s (f : Nat → Int32) (k : Nat) : eCmp f (k + 1) = if f k = -1 then eCmp f k else eCmp f k ++ [f k] := rfl
theorem eCmp_congr {f g : Nat → Int32} {n : Nat} (h : ∀ k, k < n → f k = g k) : eCmp f n = eCmp g n := by
  induction n with
  | zero => rfl
  | succ n ih => rw [eCmp_s, eCmp_s, ih (fun k hk => h k (by omega)), h n (by omega)]
theorem eCmp_len (f : Nat → Int32) (n : Nat) : (eCmp f n).length ≤ n := by
  induction n with
  | zero => exact Nat.le_refl _
  | succ n ih =>
    rw [eCmp_s]
    split
    · omega
    · rw [List.length_append]; simp; omega
theorem eCmp_all {f : Nat → Int32} {n : Nat} (h : ∀ k, k < n → f k ≠ -1) : (eCmp f n).length = n ∧ ∀ i : Nat, i < n → (eCmp f n)[i]? = some (f i) := by
  induction n with
  | zero => exact ⟨rfl, fun i hi => absurd hi (by omega)⟩
  | succ n ih =>
    obtain ⟨h1, h2⟩ := ih (fun k hk => h k (by omega))
    rw [eCmp_s, if_neg (h n (by omega))]
    refine ⟨by rw [List.length_append, h1]; rfl, fun i hi => ?_⟩
    by_cases hin : i = n
    · subst hin
      rw [List.getElem?_append_right (by omega), h1, Nat.sub_self]; rfl
    · rw [List.getElem?_append_left (by omega)]
      exact h2 i (by omega)
theorem eCmp_ne {f : Nat → Int32} {n : Nat} (i : Nat) (v : Int32) (h : (eCmp f n)[i]? = some v) : v ≠ -1 ∧ ∃ k, k < n ∧ f k = v := by
  induction n with
  | zero => cases h
  | succ n ih =>
    rw [eCmp_s] at h
    split at h
    · obtain ⟨a1, k, a2, a3⟩ := ih h
      exact ⟨a1, k, by omega, a3⟩
    · rename_i hn
      by_cases hi : i < (eCmp f n).length
      · rw [List.getElem?_append_left hi] at h
        obtain ⟨a1, k, a2, a3⟩ := ih h
        exact ⟨a1, k, by omega, a3⟩
      · rw [List.getElem?_append_right (by omega)] at h
        have : v = f n := by
          cases hj : i - (eCmp f n).length with
          | zero => rw [hj] at h; exact (Option.some.inj h).symm
          | succ j => rw [hj] at h; cases h
        rw [this]
        exact ⟨hn, n, by omega, rfl⟩
theorem eCmp_drop {f g : Nat → Int32} {q x : Nat} (hx : x < q) (hf : f x = -1) (h : ∀ k, k < q → g k = if x ≤ k ∧ k + 1 < q then f (k + 1) else f k) : eCmp g (q - 1) = eCmp f q := by
  have key : ∀ d, x + d + 1 ≤ q → eCmp g (x + d) = eCmp f (x + d + 1) := by
    intro d
    induction d with
    | zero =>
      intro hd
      rw [eCmp_s, Nat.add_zero, if_pos hf]
      exact eCmp_congr (fun k hk => by rw [h k (by omega), if_neg (by omega)])
    | succ d ih =>
      intro hd
      show eCmp g (x + d + 1) = eCmp f (x + d + 1 + 1)
      have hg : g (x + d) = f (x + d + 1) := by rw [h (x + d) (by omega), if_pos (by omega)]
      rw [eCmp_s g (x + d), eCmp_s f (x + d + 1), ih (by omega), hg]
  have := key (q - 1 - x) (by omega)
  rw [show x + (q - 1 - x) = q - 1 by omega, show q - 1 + 1 = q by omega] at this
  exact this
def ePb (b : Nat) (M : cM) : Prop := (∀ k, k < 4 → 10 + 4 * b ≤ cp M 901 b k ∧ cp M 901 b k < 14 + 4 * b) ∧ ∀ k l, k < l → l < 4 → cp M 901 b k ≠ cp M 901 b l
theorem ePb_drop {b q x : Nat} {M M' : cM} (h : ePb b M) (hq : q ≤ 4) (hx : x < q) (hP : ∀ k, k < 4 → cp M' 901 b k = if k + 1 = q then cp M 901 b x else if x ≤ k ∧ k + 1 < q then cp M 901 b (k + 1) else cp M 901 b k) : ePb b M' := by
  obtain ⟨h1, h2⟩ := h
  have hg : ∀ k, k < 4 → ∃ k', k' < 4 ∧ cp M' 901 b k = cp M 901 b k' ∧ k' = (if k + 1 = q then x else if x ≤ k ∧ k + 1 < q then k + 1 else k) := by
    intro k hk
    refine ⟨_, ?_, ?_, rfl⟩
    · split
      · omega
      · split <;> omega
    · rw [hP k hk]
      split
      · rfl
      · split <;> rfl
  refine ⟨fun k hk => ?_, fun k l hkl hl => ?_⟩
  · obtain ⟨k', a1, a2, -⟩ := hg k hk
    rw [a2]; exact h1 k' a1
  · obtain ⟨k', a1, a2, a3⟩ := hg k (by omega)
    obtain ⟨l', b1, b2, b3⟩ := hg l hl
    rw [a2, b2]
    have hne : k' ≠ l' := by
      intro h
      rw [h, b3] at a3
      split at a3 <;> split at a3 <;> (try split at a3) <;> (try split at a3) <;> omega
    rcases Nat.lt_or_gt_of_ne hne with hlt | hlt
    · exact h2 k' l' hlt b1
    · exact (h2 l' k' hlt a1).symm
/-- nothing but box b's row has moved -/
def eOr (b : Nat) (MC MC' : cM) : Prop := eF [10802, 900] MC MC' ∧ (∀ k i s, ¬ (k = 901 ∧ i = b) → cp MC' k i s = cp MC k i s) ∧ ∀ i, i ≠ b → cg MC' 8 i 2 = cg MC 8 i 2 ∧ ∀ k, cg MC' 900 i k = cg MC 900 i k
theorem eOr_trans {b : Nat} {M N O : cM} (h : eOr b M N) (h2 : eOr b N O) : eOr b M O := ⟨eF_trans h.1 h2.1, fun k i s hk => (h2.2.1 k i s hk).trans (h.2.1 k i s hk), fun i hi => ⟨(h2.2.2 i hi).1.trans (h.2.2 i hi).1, fun k => ((h2.2.2 i hi).2 k).trans ((h.2.2 i hi).2 k)⟩⟩
theorem dropSums_c {b q : Nat} {MC : cM} (hb : b < 10) (hq : q ≤ 4) (h2 : cg MC 8 b 2 = nI q) (hP : ePb b MC) : ∃ MC' q', m8_dropSums b MC = some (nI (q - q'), MC') ∧ q' ≤ q ∧ eOr b MC MC' ∧ cg MC' 8 b 2 = nI q' ∧ (∀ k, k < q' → cg MC' 900 b k ≠ -1) ∧ eCmp (fun k => cg MC' 900 b k) q' = eCmp (fun k => cg MC 900 b k) q ∧ ePb b MC' := by
  have key : ∀ j f r qq M, j ≤ 4 → j < f → r + qq = q → eOr b MC M → cg M 8 b 2 = nI qq → (∀ k, j ≤ k → k < qq → cg M 900 b k ≠ -1) → eCmp (fun k => cg M 900 b k) qq = eCmp (fun k => cg MC 900 b k) q → ePb b M → ∃ MC' q', m8_dropSums_4 f b (nI r) (nI j - 1) M = some (nI (q - q'), MC') ∧ q' ≤ q ∧ eOr b MC MC' ∧ cg MC' 8 b 2 = nI q' ∧ (∀ k, k < q' → cg MC' 900 b k ≠ -1) ∧ eCmp (fun k => cg MC' 900 b k) q' = eCmp (fun k => cg MC 900 b k) q ∧ ePb b MC' := by
    intro j
    induction j with
    | zero =>
      intro f r qq M hj hf hr i1 i2 i3 i4 i5
      obtain ⟨f, rfl⟩ : ∃ f', f = f' + 1 := ⟨f - 1, by omega⟩
      refine ⟨M, qq, ?_, by omega, i1, i2, fun k hk => i3 k (by omega) hk, i4, i5⟩
      rw [m8_dropSums_4, if_pos (by decide), show q - qq = r by omega]
    | succ j ih =>
      intro f r qq M hj hf hr i1 i2 i3 i4 i5
      obtain ⟨f, rfl⟩ : ∃ f', f = f' + 1 := ⟨f - 1, by omega⟩
      have hs : nI (j + 1) - 1 = nI j := by rw [show (1 : Int32) = nI 1 from rfl, nI_sub (by omega)]; rfl
      have c0 : ¬ nI j < 0 := fun h => by rw [show (0 : Int32) = nI 0 from rfl, eI_lt (by omega) (by omega)] at h; omega
      have hm1 : nI j + (-1 : Int32) = nI j - 1 := by rw [Int32.sub_eq_add_neg]
      rw [hs, m8_dropSums_4, if_neg c0, blt_t hb, Bool.and_true, zgd_t, i2]
      have el : (nI qq ≤ nI j) = (qq ≤ j) := eI_le (by omega) (by omega)
      by_cases hl : qq ≤ j
      · rw [if_pos (el.mpr hl)]
        unfold m8_dropSums_34
        rw [hm1]
        exact ih f r qq M (by omega) (by omega) hr i1 i2 (fun k h1 h2 => absurd h2 (by omega)) i4 i5
      · rw [if_neg (fun h => hl (el.mp h))]
        simp only [blt_t hb, ezin_nI (show j < 4 by omega) (show 4 < 2 ^ 31 by decide), ex_nI (show j < 2 ^ 31 by omega), zbd_s, zbv_s, zgd_t, Bool.and_true, Bool.true_and, Bool.and_self, if_true, if_false, e_01, eq_self, Bool.false_eq_true]
        by_cases hv : cg M 900 b j = -1
        · rw [if_pos hv]
          obtain ⟨M', d1, d2, d3, d4, d5, d6, d7⟩ := drop_c hb (show qq ≤ 4 by omega) (show j < qq by omega) i2 (fun k hk => by have := i5.1 k hk; omega)
          rw [d1, zbv_s]
          unfold m8_dropSums_34
          rw [hm1, ep1]
          refine ih f (r + 1) (qq - 1) M' (by omega) (by omega) (by omega) (eOr_trans i1 ⟨d2, d3, d4⟩) d5 ?_ ?_ (ePb_drop i5 (by omega) (by omega) d7)
          · intro k h1 h2
            rw [d6 k (by omega), if_pos (by omega)]
            exact i3 (k + 1) (by omega) (by omega)
          · rw [eCmp_drop (f := fun k => cg M 900 b k) (x := j) (q := qq) (by omega) hv (fun k hk => d6 k (by omega))]
            exact i4
        · rw [if_neg hv]
          unfold m8_dropSums_34
          rw [hm1]
          refine ih f r qq M (by omega) (by omega) hr i1 i2 (fun k h1 h2 => ?_) i4 i5
          by_cases hk : k = j
          · rw [hk]; exact hv
          · exact i3 k (by omega) h2
  exact key 4 zfu 0 q MC (by omega) (zfu_gt (by omega)) (by omega) ⟨eF_refl, fun _ _ _ _ => rfl, fun _ _ => ⟨rfl, fun _ => rfl⟩⟩ h2 (fun k h1 h2 => absurd h2 (by omega)) rfl hP
