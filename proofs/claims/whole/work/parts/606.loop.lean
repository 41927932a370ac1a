/-! loops -/
theorem zfu_gt {a : Nat} (h : a < 100000) : a < zfu := h
theorem eloop {σ : Type} (P : Nat → Nat → σ → Prop) (Inv : Nat → σ → Prop) {m k0 : Nat} (hk : k0 ≤ m) (hend : ∀ f s, Inv m s → P (f + 1) m s) (hstep : ∀ f k s, k0 ≤ k → k < m → Inv k s → (∀ s', Inv (k + 1) s' → P f (k + 1) s') → P (f + 1) k s) {f : Nat} {s : σ} (hf : m - k0 < f) (hI : Inv k0 s) : P f k0 s := by
  have key : ∀ d k f s, k0 ≤ k → k + d = m → d < f → Inv k s → P f k s := by
    intro d
    induction d with
    | zero =>
      intro k f s h0 h1 h2 h3
      obtain ⟨f, rfl⟩ : ∃ f', f = f' + 1 := ⟨f - 1, by omega⟩
      have : k = m := by omega
      subst this
      exact hend f s h3
    | succ d ih =>
      intro k f s h0 h1 h2 h3
      obtain ⟨f, rfl⟩ : ∃ f', f = f' + 1 := ⟨f - 1, by omega⟩
      exact hstep f k s h0 (by omega) h3 (fun s' hs' => ih (k + 1) f s' (by omega) (by omega) (by omega) hs')
  exact key (m - k0) k0 f s (Nat.le_refl _) (by omega) hf hI
/-- a loop without a state of its own -/
theorem eloop0 (P : Nat → Nat → Prop) {m k0 : Nat} (hk : k0 ≤ m) (hend : ∀ f, P (f + 1) m) (hstep : ∀ f k, k0 ≤ k → k < m → P f (k + 1) → P (f + 1) k) {f : Nat} (hf : m - k0 < f) : P f k0 :=
  eloop (σ := Unit) (fun f k _ => P f k) (fun _ _ => True) hk (fun f _ _ => hend f) (fun f k _ h1 h2 _ ih => hstep f k h1 h2 (ih () trivial)) (s := ()) hf trivial
def eSet : Nat → (Nat → Bool) → Int32
  | 0, _ => 0
  | n + 1, p => if p n then eSet n p ||| zshl 1 (nI n) else eSet n p
def eNum : Nat → (Nat → Bool) → Nat
  | 0, _ => 0
  | n + 1, p => eNum n p + if p n then 1 else 0
theorem eSet_s (n : Nat) (p : Nat → Bool) : eSet (n + 1) p = if p n then eSet n p ||| zshl 1 (nI n) else eSet n p := rfl
theorem eNum_s (n : Nat) (p : Nat → Bool) : eNum (n + 1) p = eNum n p + if p n then 1 else 0 := rfl
theorem eb_set {n : Nat} (hn : n ≤ 31) (p : Nat → Bool) (j : Nat) : eb (eSet n p) j = (decide (j < n) && p j) := by
  induction n with
  | zero => unfold eSet; rw [eb_0]; simp
  | succ n ih =>
    have := ih (by omega)
    unfold eSet
    by_cases hp : p n = true
    · rw [if_pos hp, eb_or, this, eb_shl (by omega)]
      by_cases hj : j = n
      · subst hj; simp [hp]
      · have : decide (j < n + 1) = decide (j < n) := by congr 1; refine propext ?_; omega
        rw [this]; simp [hj]
    · rw [if_neg hp, this]
      by_cases hj : j = n
      · subst hj; simp; simpa using hp
      · have : decide (j < n + 1) = decide (j < n) := by congr 1; refine propext ?_; omega
        rw [this]
theorem eNum_le (n : Nat) (p : Nat → Bool) : eNum n p ≤ n := by
  induction n with
  | zero => exact Nat.le_refl _
  | succ n ih => unfold eNum; split <;> omega
theorem eSet_congr {n : Nat} {p q : Nat → Bool} (h : ∀ j, j < n → p j = q j) : eSet n p = eSet n q := by
  induction n with
  | zero => rfl
  | succ n ih => unfold eSet; rw [h n (by omega), ih (fun j hj => h j (by omega))]
theorem eNum_congr {n : Nat} {p q : Nat → Bool} (h : ∀ j, j < n → p j = q j) : eNum n p = eNum n q := by
  induction n with
  | zero => rfl
  | succ n ih => unfold eNum; rw [h n (by omega), ih (fun j hj => h j (by omega))]
/-- a small number's bits, counted as the class does -/
def eBc (n : Nat) : Nat := eNum 10 (fun j => n.testBit j)
theorem bitC_aux : ∀ a : Nat, a < 1024 → (mJ6_bitCount (nI a) cM0).map (fun q => q.1) = some (nI (eBc a)) := by decide +kernel
theorem bitC {a : Nat} (h : a < 1024) (M : cM) : mJ6_bitCount (nI a) M = some (nI (eBc a), M) := by
  have := bitC_aux a h
  unfold mJ6_bitCount at *
  simp only [Option.map_some, Option.some.injEq] at this
  rw [this]
theorem eBc_set {n : Nat} (hn : n ≤ 10) (p : Nat → Bool) : ∃ a : Nat, a < 1024 ∧ eSet n p = nI a ∧ eBc a = eNum n p := by
  obtain ⟨a, ha, e⟩ := eb_lt (x := eSet n p) (k := 10) (by decide) (fun j hj => by rw [eb_set (by omega)]; simp; omega)
  refine ⟨a, ha, e, ?_⟩
  have hb : ∀ j, a.testBit j = (decide (j < n) && p j) := by
    intro j
    rw [← eb_nI a j (by omega), ← e, eb_set (by omega)]
  unfold eBc
  have : ∀ k, k ≤ 10 → n ≤ k → eNum k (fun j => a.testBit j) = eNum n p := by
    intro k
    induction k with
    | zero => intro _ h; have : n = 0 := by omega
              subst this; rfl
    | succ k ih =>
      intro h1 h2
      by_cases h3 : n = k + 1
      · subst h3
        exact eNum_congr (fun j hj => by rw [hb, decide_eq_true hj, Bool.true_and])
      · rw [eNum_s, ih (by omega) (by omega), hb, show decide (k < n) = false from decide_eq_false (by omega), Bool.false_and]
        simp
  exact this 10 (by omega) hn
def eLiv (M : rM) (b : Nat) : Bool := !(decide (rg M 1302 0 b ≤ 0))
theorem living_c {m t : Nat} {MC : cM} {MR : rM} (hm : m ≤ 10) (g0 : eG0 m t MC MR) (g1 : eG1 m MC MR) : m3_living MC = some (eSet m (eLiv MR), MC) := by
  unfold m3_living
  refine eloop0 (fun f k => m3_living_4 f (eSet k (eLiv MR)) (nI k) MC = some (eSet m (eLiv MR), MC)) (Nat.zero_le m) ?_ ?_ (zfu_gt (by omega))
  · intro f
    simp only [m3_living_4, g0.1, eI_le (show m < 2 ^ 31 by omega) (show m < 2 ^ 31 by omega), Nat.le_refl, zbd_s, zbv_s, zgd_t, Bool.and_true, Bool.true_and, Bool.and_self, if_true, if_false, e_01, eq_self, Bool.false_eq_true]
  · intro f k _ hk ih
    have hk10 : k < 10 := by omega
    simp only [m3_living_4, m3_living_29, g0.1, eI_le (show m < 2 ^ 31 by omega) (show k < 2 ^ 31 by omega), show (m ≤ k) = False from eq_false (by omega), of_y hk10, blt_t hk10, dead_c g1 hk10, ep1, zbd_s, zbv_s, zgd_t, Bool.and_true, Bool.true_and, Bool.and_self, if_true, if_false, e_01, eq_self, Bool.false_eq_true]
    rw [← ih, eSet_s]
    by_cases h : rg MR 1302 0 k ≤ 0 <;> simp [h, eLiv]
def eMate (M : rM) (b j : Nat) : Bool := eb (rg M 1307 0 j) b && eb (rg M 1307 0 b) j
theorem friends_c {m t b : Nat} {MC : cM} {MR : rM} (hm : m ≤ 10) (g0 : eG0 m t MC MR) (g1 : eG1 m MC MR) (hb : b < 10) : m3_friends (nI b) MC = some (eSet m (eMate MR b), MC) := by
  unfold m3_friends
  refine eloop0 (fun f k => m3_friends_4 f (nI b) (eSet k (eMate MR b)) (nI k) MC = some (eSet m (eMate MR b), MC)) (Nat.zero_le m) ?_ ?_ (zfu_gt (by omega))
  · intro f
    simp only [m3_friends_4, g0.1, eI_le (show m < 2 ^ 31 by omega) (show m < 2 ^ 31 by omega), Nat.le_refl, zbd_s, zbv_s, zgd_t, Bool.and_true, Bool.true_and, Bool.and_self, if_true, if_false, e_01, eq_self, Bool.false_eq_true]
  · intro f k _ hk ih
    have hk10 : k < 10 := by omega
    simp only [m3_friends_4, m3_friends_42, g0.1, eI_le (show m < 2 ^ 31 by omega) (show k < 2 ^ 31 by omega), show (m ≤ k) = False from eq_false (by omega), of_y hk10, of_y hb, blt_t hb, blt_t hk10, hear_c g1 hk10 b hb, hear_c g1 hb k hk10, ep1, ei_1, zbd_s, zbv_s, zgd_t, Bool.and_true, Bool.true_and, Bool.and_self, if_true, if_false, e_01, eq_self, Bool.false_eq_true]
    rw [← ih, eSet_s]
    cases h1 : eb (rg MR 1307 0 k) b <;> cases h2 : eb (rg MR 1307 0 b) k <;> simp [eMate, h1, h2]
theorem mates_e {b j : Nat} (hb : b < 10) (hj : j < 10) (M : rM) : m12_areMates (nI j) (nI b) M = some (if eMate M b j then 1 else 0, M) := by
  unfold m12_areMates eMate
  simp only [ezin_nI hb (show 10 < 2 ^ 31 by decide), ezin_nI hj (show 10 < 2 ^ 31 by decide), ex_nI (show b < 2 ^ 31 by omega), ex_nI (show j < 2 ^ 31 by omega), isIn_y (show b < 32 by omega), isIn_y (show j < 32 by omega), ei_1, zbd_s, zbv_s, zgd_t, Bool.and_true, Bool.true_and, Bool.and_self, if_true, if_false, e_01, eq_self, Bool.false_eq_true]
  cases h1 : eb (rg M 1307 0 j) b <;> cases h2 : eb (rg M 1307 0 b) j <;> simp
