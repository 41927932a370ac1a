/-! sums over boxes and places -/
theorem eSig_s (n : Nat) (f : Nat → Nat) : eSig (n + 1) f = eSig n f + f n := rfl
theorem eSig_congr {n : Nat} {f g : Nat → Nat} (h : ∀ k, k < n → g k = f k) : eSig n g = eSig n f := by
  induction n with
  | zero => rfl
  | succ n ih => rw [eSig_s, eSig_s, ih (fun k hk => h k (by omega)), h n (by omega)]
theorem eSig_upd {n b : Nat} {f g : Nat → Nat} (hb : b < n) (h : ∀ k, k < n → k ≠ b → g k = f k) : eSig n g + f b = eSig n f + g b := by
  induction n with
  | zero => omega
  | succ n ih =>
    rw [eSig_s, eSig_s]
    by_cases hbn : b = n
    · subst hbn
      have := eSig_congr (n := b) (f := f) (g := g) (fun k hk => h k (by omega) (by omega))
      omega
    · have := ih (by omega) (fun k hk hne => h k (by omega) hne)
      have := h n (by omega) (by omega)
      omega
theorem eSig_le {n b : Nat} (f : Nat → Nat) (hb : b < n) : f b ≤ eSig n f := by
  induction n with
  | zero => omega
  | succ n ih =>
    rw [eSig_s]
    by_cases hbn : b = n
    · subst hbn; omega
    · have := ih (by omega); omega
theorem eSig_0 {n : Nat} {f : Nat → Nat} (h : ∀ k, k < n → f k = 0) : eSig n f = 0 := by
  induction n with
  | zero => rfl
  | succ n ih => rw [eSig_s, ih (fun k hk => h k (by omega)), h n (by omega)]
theorem eNe1 {x : Int32} (h : 0 ≤ x) : ¬ x = -1 := by
  intro e; rw [e] at h; exact absurd h (by decide)
/-- the parts of the mass of which a change doesn't speak -/
theorem eMs_row {M M' : cM} {b : Nat} (hb : b < 10) (h1 : ∀ c, c < 10 → eM1 M' c = eM1 M c) (h3 : ∀ c, c < 10 → c ≠ b → eM3 M' c = eM3 M c) (h50 : cg M' 9 50 2 = cg M 9 50 2) : eMs M' + eM3 M b = eMs M + eM3 M' b := by
  unfold eMs
  rw [eSig_congr h1, h50]
  have := eSig_upd hb h3
  omega
