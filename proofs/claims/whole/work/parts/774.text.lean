def eWl (w : Nat) : Nat := zstL.getD w 0
def eWc (w i : Nat) : Nat := nx ((zstB.getD w []).getD i 0)
def eWvT : List Nat := [1905275, 6476969, 267347, 259565, 247702, 12384743, 1887, 582341, 1170473, 1111, 3094387]
def eWv (w : Nat) : Nat := eWvT.getD w 0
theorem word_tab : ∀ w : Nat, w < 11 → zstlen w = nI (eWl w) ∧ 1 ≤ eWl w ∧ eWl w ≤ 5 ∧ eV (fun i => eWc w i - 96) (eWl w) = eWv w := by decide +kernel
theorem word_ch : ∀ w : Nat, w < 11 → ∀ i : Nat, i < eWl w → zstch w (nI i) = nI (eWc w i) ∧ 97 ≤ eWc w i ∧ eWc w i ≤ 122 := by decide +kernel
/-- the token from s to e is the word w -/
def eIw (T : Nat → Int32) (s e w : Nat) : Prop := e - s = eWl w ∧ ∀ i, i < eWl w → T (s + i) = nI (eWc w i)
theorem nI_sub {a b : Nat} (h : b ≤ a) : nI a - nI b = nI (a - b) := by
  obtain ⟨u, rfl⟩ : ∃ u, a = u + b := ⟨a - b, by omega⟩
  rw [← eI_add, Nat.add_sub_cancel]; exact Int32.add_sub_cancel _ _
theorem skip_c {T : Nat → Int32} {q s e w : Nat} {MC : cM} (hw : w < 11) (h : eTxC T q MC) (hse : s ≤ e) (heq : e ≤ q) (h2 : cg MC 10 0 2 = nI s) (h3 : cg MC 10 0 3 = nI e) : (eIw T s e w ∧ m10_skipWord w MC = zbv (m10_nextToken MC) (fun M3 => some ((1 : Int32), M3))) ∨ (¬ eIw T s e w ∧ m10_skipWord w MC = some (0, MC)) := by
  obtain ⟨hq, h1, hT⟩ := h
  obtain ⟨t1, t2, t3, t4⟩ := word_tab w hw
  unfold m10_skipWord
  rw [blt_t hw, zgd_t, h2, h3, nI_sub hse, t1]
  by_cases hl : e - s = eWl w
  · rw [if_pos (by rw [hl])]
    have key : ∀ d k f, k + d = eWl w → d < f → (∀ i, i < k → T (s + i) = nI (eWc w i)) → (eIw T s e w ∧ m10_skipWord_20 f w (nI k) MC = zbv (m10_nextToken MC) (fun M3 => some ((1 : Int32), M3))) ∨ (¬ eIw T s e w ∧ m10_skipWord_20 f w (nI k) MC = some (0, MC)) := by
      intro d
      induction d with
      | zero =>
        intro k f hk hf hi
        obtain ⟨f, rfl⟩ : ∃ f', f = f' + 1 := ⟨f - 1, by omega⟩
        left
        have hkw : k = eWl w := by omega
        subst hkw
        refine ⟨⟨hl, hi⟩, ?_⟩
        simp only [m10_skipWord_20, blt_t hw, t1, eI_le (show eWl w < 2 ^ 31 by omega) (show eWl w < 2 ^ 31 by omega), Nat.le_refl, zbd_s, zbv_s, zgd_t, Bool.and_true, Bool.true_and, Bool.and_self, if_true, if_false, e_01, eq_self, Bool.false_eq_true]
      | succ d ih =>
        intro k f hk hf hi
        obtain ⟨f, rfl⟩ : ∃ f', f = f' + 1 := ⟨f - 1, by omega⟩
        have hkw : k < eWl w := by omega
        obtain ⟨c1, c2, c3⟩ := word_ch w hw k hkw
        have hb : cg MC 1100 0 (s + k) = T (s + k) := hT (s + k) (by omega)
        have hz : zin (nI k) (zstL.getD w 0) = true := ezin_nI hkw (by show eWl w < 2 ^ 31; omega)
        simp only [m10_skipWord_20, blt_t hw, t1, eI_le (show eWl w < 2 ^ 31 by omega) (show k < 2 ^ 31 by omega), show (eWl w ≤ k) = False from eq_false (by omega), h2, eI_add, byte_c (show s + k < 120 by omega), hb, hz, c1, ep1, zbd_s, zbv_s, zgd_t, Bool.and_true, Bool.true_and, Bool.and_self, if_true, if_false, e_01, eq_self, Bool.false_eq_true]
        by_cases hc : T (s + k) = nI (eWc w k)
        · simp only [hc, if_true]
          exact ih (k + 1) f (by omega) (by omega) (fun i hik => by
            by_cases h : i = k
            · rw [h]; exact hc
            · exact hi i (by omega))
        · right
          simp only [hc, if_false]
          exact ⟨fun h => hc (h.2 k hkw), trivial⟩
    exact key (eWl w) 0 zfu (by omega) (zfu_gt (by omega)) (fun i h => absurd h (by omega))
  · right
    rw [if_neg (fun h => hl (by rwa [eI_inj (by omega) (by omega)] at h))]
    exact ⟨fun h => hl h.1, rfl⟩
theorem lt27 {v k : Nat} (h : v < 27 ^ k) (hk : k ≤ 12) : v < 2 ^ 63 :=
  Nat.lt_of_lt_of_le h (Nat.le_trans (Nat.pow_le_pow_right (by decide) hk) (Nat.le_of_ble_eq_true rfl))
theorem ewv_lt : ∀ w : Nat, w < 11 → eWv w < 2 ^ 63 := by decide +kernel
theorem wv_m2 : ∀ w : Nat, w < 11 → ¬ (-2 : Int64) = eL (eWv w) := by decide +kernel
theorem wv_m1 : ∀ w : Nat, w < 11 → ¬ (-1 : Int64) = eL (eWv w) := by decide +kernel
theorem eV_congr {f g : Nat → Nat} {n : Nat} (h : ∀ k, k < n → f k = g k) : eV f n = eV g n := by
  induction n with
  | zero => rfl
  | succ n ih =>
    have e1 : eV f (n + 1) = 27 * eV f n + f n := rfl
    have e2 : eV g (n + 1) = 27 * eV g n + g n := rfl
    rw [e1, e2, ih (fun k hk => h k (by omega)), h n (by omega)]
theorem eLt_word {T : Nat → Int32} {s e w i : Nat} (hw : w < 11) (h : eIw T s e w) (hi : i < eWl w) : eLt T s i = eWc w i - 96 := by
  have hch := word_ch w hw i hi
  have hT := h.2 i hi
  have hx : nx (nI (eWc w i)) = eWc w i := ex_nI (Nat.lt_of_le_of_lt hch.2.2 (by decide))
  unfold eLt
  rw [hT, hx]
theorem eV_word {T : Nat → Int32} {s e w : Nat} (hw : w < 11) (h : eIw T s e w) : eV (eLt T s) (e - s) = eWv w := by
  have h4 := (word_tab w hw).2.2.2
  have h1 := h.1
  rw [h1, ← h4]
  exact eV_congr (fun k hk => eLt_word hw h hk)
theorem word_e {T : Nat → Int32} {q s e w : Nat} {MR : rM} (hw : w < 11) (hq : q ≤ 120) (hse : s ≤ e) (heq : e ≤ q) (hes : q ≤ s → e = s) (hel : s < q → s + 1 ≤ e) (hk : ∀ j, s ≤ j → j < e → eKn (T j) = eKn (T s)) (h : eTkR T q s e MR) : (eIw T s e w ∧ m12_isWord (eL (eWv w)) MR = some (1, MR)) ∨ (¬ eIw T s e w ∧ m12_isWord (eL (eWv w)) MR = some (0, MR)) := by
  obtain ⟨t1, t2, t3, t4⟩ := word_tab w hw
  have hiff : rgl MR 12 0 33 = eL (eWv w) ↔ eIw T s e w := by
    rw [h.2.2.1]
    by_cases hqs : q ≤ s
    · rw [if_pos hqs]
      refine ⟨fun hc => ?_, fun hc => ?_⟩
      · exact absurd hc (wv_m2 w hw)
      · have := hc.1; have := hes hqs; omega
    · rw [if_neg hqs]
      have hsl := hel (by omega)
      have hcls : eIw T s e w → eKn (T s) = 1 := by
        intro hc
        have h0 := hc.2 0 (by omega)
        obtain ⟨-, c2, c3⟩ := word_ch w hw 0 (by omega)
        rw [Nat.add_zero] at h0
        rw [h0, kn1, show (97 : Int32) = nI 97 from rfl, show (122 : Int32) = nI 122 from rfl, eI_le (by omega) (by omega), eI_le (by omega) (by omega)]
        omega
      by_cases hc : eKn (T s) = 1 ∧ e - s ≤ 12
      · rw [if_pos hc]
        have hf : ∀ i, i < e - s → 1 ≤ eLt T s i ∧ eLt T s i ≤ 26 ∧ T (s + i) = nI (eLt T s i + 96) := by
          intro i hi
          have := kn1.mp ((hk (s + i) (by omega) (by omega)).trans hc.1)
          obtain ⟨x, hx, hTx⟩ := eI_ofl (b := 122) (Int32.le_trans (show (0 : Int32) ≤ 97 by decide) this.1) this.2 (by decide)
          have hx97 : 97 ≤ x := by
            have h1 := this.1
            rw [hTx, show (97 : Int32) = nI 97 from rfl, eI_le (by omega) (by omega)] at h1; exact h1
          unfold eLt
          rw [hTx, ex_nI (by omega)]
          refine ⟨by omega, by omega, ?_⟩
          rw [show x - 96 + 96 = x by omega]
        have hg : ∀ i, i < eWl w → 1 ≤ eWc w i - 96 ∧ eWc w i - 96 ≤ 26 := by
          intro i hi
          have := word_ch w hw i hi
          omega
        have hlt := lt27 (eV_lt (eLt T s) (e - s) (fun i hi => (hf i hi).2.1)) hc.2
        constructor
        · intro hv
          have hv2 := eL_inj hlt (ewv_lt w hw) hv
          rw [← t4] at hv2
          obtain ⟨a1, a2⟩ := eV_inj _ _ _ _ (fun i hi => ⟨(hf i hi).1, (hf i hi).2.1⟩) hg hv2
          refine ⟨a1, fun i hi => ?_⟩
          rw [(hf i (by omega)).2.2, a2 i hi]
          have := word_ch w hw i hi
          congr 1; omega
        · intro hc2
          exact congrArg eL (eV_word hw hc2)
      · rw [if_neg hc]
        refine ⟨fun h2 => ?_, fun h2 => ?_⟩
        · exact absurd h2 (wv_m1 w hw)
        · exfalso
          apply hc
          have := h2.1
          exact ⟨hcls h2, by omega⟩
  unfold m12_isWord
  by_cases hc : eIw T s e w
  · left
    refine ⟨hc, ?_⟩
    rw [if_pos ((lg_cmp_eq _ _).mpr (hiff.mpr hc))]
  · right
    refine ⟨hc, ?_⟩
    rw [if_neg (fun h => hc (hiff.mp ((lg_cmp_eq _ _).mp h)))]
/-- the number at hand, if there is one -/
def eNb (T : Nat → Int32) (q s e : Nat) : Option Nat := if s < q ∧ eKn (T s) = 2 ∧ e - s ≤ 2 then some (eDv T s (e - s)) else none
theorem eDv_le {T : Nat → Int32} {s : Nat} (k : Nat) (hk : k ≤ 2) (h : ∀ i, i < k → ∃ x, 48 ≤ x ∧ x ≤ 57 ∧ T (s + i) = nI x) : eDv T s k ≤ 10 ^ k - 1 := by
  have h1 : ∀ i, i < k → nx (T (s + i)) - 48 ≤ 9 := by
    intro i hi
    obtain ⟨x, a1, a2, a3⟩ := h i hi
    rw [a3, ex_nI (by omega)]; omega
  have hc : k = 0 ∨ k = 1 ∨ k = 2 := by omega
  rcases hc with rfl | rfl | rfl
  · exact Nat.le_refl _
  · have := h1 0 (by omega)
    show (if 0 < 2 then 10 * 0 + (nx (T (s + 0)) - 48) else 0) ≤ 9
    rw [if_pos (by omega)]; omega
  · have := h1 0 (by omega); have := h1 1 (by omega)
    show (if 1 < 2 then 10 * (if 0 < 2 then 10 * 0 + (nx (T (s + 0)) - 48) else 0) + (nx (T (s + 1)) - 48) else _) ≤ 99
    rw [if_pos (by omega), if_pos (by omega)]; omega
theorem num_c {T : Nat → Int32} {q s e : Nat} {MC : cM} (h : eTxC T q MC) (hse : s ≤ e) (heq : e ≤ q) (hes : q ≤ s → e = s) (hel : s < q → s + 1 ≤ e) (hk : ∀ j, s ≤ j → j < e → eKn (T j) = eKn (T s)) (h2 : cg MC 10 0 2 = nI s) (h3 : cg MC 10 0 3 = nI e) : m10_numberAtHand MC = some (eBI (eNb T q s e), MC) ∧ ∀ v, eNb T q s e = some v → v ≤ 99 := by
  obtain ⟨hq, h1, hT⟩ := h
  have hdig : eKn (T s) = 2 → ∀ i, i < e - s → ∃ x, 48 ≤ x ∧ x ≤ 57 ∧ T (s + i) = nI x := by
    intro hd i hi
    have := kn2.mp ((hk (s + i) (by omega) (by omega)).trans hd)
    obtain ⟨x, hx, hTx⟩ := eI_ofl (b := 57) (Int32.le_trans (show (0 : Int32) ≤ 48 by decide) this.1) this.2 (by decide)
    have hx48 : 48 ≤ x := by
      have h1 := this.1
      rw [hTx, show (48 : Int32) = nI 48 from rfl, eI_le (by omega) (by omega)] at h1; exact h1
    exact ⟨x, hx48, hx, hTx⟩
  refine ⟨?_, fun v hv => ?_⟩
  · unfold m10_numberAtHand
    simp only [h2, h3, nI_sub hse, show (nI (e - s) < 1) = (e - s < 1) from by rw [show (1 : Int32) = nI 1 from rfl, eI_lt (by omega) (by omega)], show (nI (e - s) ≤ 2) = (e - s ≤ 2) from by rw [show (2 : Int32) = nI 2 from rfl, eI_le (by omega) (by omega)]]
    by_cases c1 : e - s < 1
    · rw [if_pos c1]
      have : eNb T q s e = none := by unfold eNb; rw [if_neg]; intro h; have := hel h.1; omega
      rw [this]; rfl
    · rw [if_neg c1]
      have hsq : s < q := by omega
      by_cases c2 : e - s ≤ 2
      · rw [if_pos c2]
        by_cases c3 : eKn (T s) = 2
        · have hnb : eNb T q s e = some (eDv T s (e - s)) := by unfold eNb; rw [if_pos ⟨hsq, c3, c2⟩]
          rw [hnb]
          refine eloop0 (fun f k => m10_numberAtHand_35 f (nI (eDv T s (k - s))) (nI k) MC = some (nI (eDv T s (e - s)), MC)) (m := e) (k0 := s) hse ?_ ?_ (zfu_gt (by omega)) |> fun h => by rw [Nat.sub_self] at h; exact h
          · intro f
            simp only [m10_numberAtHand_35, h3, eI_le (show e < 2 ^ 31 by omega) (show e < 2 ^ 31 by omega), show (e ≤ e) = True from eq_true (by omega), zbd_s, zbv_s, zgd_t, Bool.and_true, Bool.true_and, Bool.and_self, if_true, if_false, e_01, eq_self, Bool.false_eq_true]
          · intro f k hk1 hk2 ih
            obtain ⟨x, x1, x2, x3⟩ := hdig c3 (k - s) (by omega)
            rw [show s + (k - s) = k by omega] at x3
            have hkk : eKn (T k) = 2 := (hk k hk1 hk2).trans c3
            have hb : cg MC 1100 0 k = T k := hT k (by omega)
            have hkk' : eKn (nI x) = 2 := by rw [← x3]; exact hkk
            have hdv : eDv T s (k + 1 - s) = 10 * eDv T s (k - s) + (x - 48) := by
              rw [show k + 1 - s = (k - s) + 1 by omega]
              show (if k - s < 2 then 10 * eDv T s (k - s) + (nx (T (s + (k - s))) - 48) else eDv T s (k - s)) = _
              rw [if_pos (by omega), show s + (k - s) = k by omega, x3, ex_nI (by omega)]
            rw [hdv] at ih
            simp only [m10_numberAtHand_35, h3, eI_le (show e < 2 ^ 31 by omega) (show k < 2 ^ 31 by omega), show (e ≤ k) = False from eq_false (by omega), byte_c (show k < 120 by omega), hb, kind_c, x3, hkk', e10, eI_add, ep1, zbd_s, zbv_s, zgd_t, Bool.and_true, Bool.true_and, Bool.and_self, if_true, if_false, e_01, eq_self, Bool.false_eq_true]
            rw [show 10 * eDv T s (k - s) + x = (10 * eDv T s (k - s) + (x - 48)) + 48 by omega, ← eI_add, show (48 : Int32) = nI 48 from rfl, Int32.add_sub_cancel]
            exact ih
        · have hnb : eNb T q s e = none := by unfold eNb; rw [if_neg (fun h => c3 h.2.1)]
          rw [hnb]
          have hb : cg MC 1100 0 s = T s := hT s hsq
          have : ∀ f, m10_numberAtHand_35 (f + 1) 0 (nI s) MC = some (-1, MC) := by
            intro f
            simp only [m10_numberAtHand_35, h3, eI_le (show e < 2 ^ 31 by omega) (show s < 2 ^ 31 by omega), show (e ≤ s) = False from eq_false (by omega), byte_c (show s < 120 by omega), hb, kind_c, c3, zbd_s, zbv_s, zgd_t, Bool.and_true, Bool.true_and, Bool.and_self, if_true, if_false, e_01, eq_self, Bool.false_eq_true]
          exact this 99999
      · rw [if_neg c2]
        have : eNb T q s e = none := by unfold eNb; rw [if_neg (fun h => c2 h.2.2)]
        rw [this]; rfl
  · unfold eNb at hv
    split at hv
    · rename_i hc
      cases hv
      have := eDv_le (e - s) hc.2.2 (hdig hc.2.1)
      have : 10 ^ (e - s) ≤ 10 ^ 2 := Nat.pow_le_pow_right (by decide) hc.2.2
      omega
    · cases hv
theorem num_e {T : Nat → Int32} {q s e lo hi : Nat} {MR : rM} (hq : q ≤ 120) (hse : s ≤ e) (heq : e ≤ q) (hel : s < q → s + 1 ≤ e) (hlo : lo < 2 ^ 31) (hhi : hi < 2 ^ 31) (h : eTkR T q s e MR) (hv : ∀ v, eNb T q s e = some v → v ≤ 99) : m12_isNumber (nI lo) (nI hi) MR = some (match eNb T q s e with
    | none => 0
    | some v => if lo ≤ v ∧ v ≤ hi then 1 else 0, MR) ∧ ∀ v, eNb T q s e = some v → rg MR 12 0 35 = nI v := by
  obtain ⟨-, -, -, h34, h35⟩ := h
  have hnum : ∀ v, eNb T q s e = some v → rg MR 12 0 35 = nI v := by
    intro v hv2
    unfold eNb at hv2
    split at hv2
    · rename_i hc; cases hv2; exact h35 hc.1 hc.2.1
    · cases hv2
  refine ⟨?_, hnum⟩
  unfold m12_isNumber
  cases hN : eNb T q s e with
  | none =>
    have : ¬ ((1 : Int32) ≤ rg MR 12 0 34 ∧ rg MR 12 0 34 ≤ 2) := by
      intro hc
      rw [h34] at hc
      unfold eNb at hN
      split at hN
      · cases hN
      · rename_i hn
        by_cases hqs : q ≤ s
        · rw [if_pos hqs] at hc; exact absurd hc.1 (by decide)
        · rw [if_neg hqs] at hc
          by_cases hd : eKn (T s) = 2
          · rw [if_pos hd] at hc
            have h2 := hc.2
            rw [show (2 : Int32) = nI 2 from rfl, eI_le (by omega) (by omega)] at h2
            exact hn ⟨by omega, hd, h2⟩
          · rw [if_neg hd] at hc; exact absurd hc.1 (by decide)
    rw [in_n this, zbd_s, if_pos rfl]
  | some v =>
    have h35' := hnum v hN
    have hv99 := hv v hN
    unfold eNb at hN
    split at hN
    · rename_i hc
      have hel' := hel hc.1
      have h34' : rg MR 12 0 34 = nI (e - s) := by rw [h34, if_neg (by omega), if_pos hc.2.1]
      rw [h34', in_y (by rw [show (1 : Int32) = nI 1 from rfl, eI_le (by omega) (by omega)]; omega) (by rw [show (2 : Int32) = nI 2 from rfl, eI_le (by omega) (by omega)]; omega), zbd_s, if_neg (by decide), h35']
      by_cases hin : lo ≤ v ∧ v ≤ hi
      · rw [in_y (by rw [eI_le hlo (by omega)]; exact hin.1) (by rw [eI_le (by omega) hhi]; exact hin.2), zbd_s, if_neg (by decide)]
        simp [hin]
      · rw [in_n (fun h => hin ⟨by have := h.1; rwa [eI_le hlo (by omega)] at this, by have := h.2; rwa [eI_le (by omega) hhi] at this⟩), zbd_s, if_pos rfl]
        simp [hin]
    · cases hN
