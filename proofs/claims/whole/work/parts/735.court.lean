theorem eGo_sym {a b : Nat} {MC : cM} {MR : rM} (g8 : eG8 MC MR) (ha : a < 6) (hb : b < 6) : eGo MR a b = (decide (b = a) || eb (rg MR 1368 0 b) a) := by
  unfold eGo
  rw [(g8.2.2.2.2.1 a ha).2 b hb]
  congr 1
  rw [decide_eq_decide]; exact eq_comm
def ePre (d c t : Nat) : Nat := c / 6 ^ (d - t)
theorem ePre_s {d c t : Nat} (ht : t < d) : ePre d c (t + 1) / 6 = ePre d c t ∧ ePre d c (t + 1) % 6 = eDg d c t := by
  unfold ePre eDg
  rw [Nat.div_div_eq_div_mul, ← Nat.pow_succ, show d - (t + 1) = d - 1 - t by omega, show (d - 1 - t).succ = d - t by omega]
  exact ⟨rfl, rfl⟩
theorem ePre_d (d c : Nat) : ePre d c d = c := by unfold ePre; rw [Nat.sub_self, Nat.pow_zero, Nat.div_one]
theorem eTo_pre {M : rM} {w : Int32} {d c t : Nat} (ht : t ≤ d) : eTo M w t (ePre d c t) ≤ eTo M w d c := by
  have : ∀ e t, t + e = d → eTo M w t (ePre d c t) ≤ eTo M w d c := by
    intro e
    induction e with
    | zero => intro t h; have : t = d := by omega
              subst this; rw [ePre_d]; exact Nat.le_refl _
    | succ e ih =>
      intro t h
      have h2 := ih (t + 1) (by omega)
      have h3 := ePre_s (d := d) (c := c) (show t < d by omega)
      rw [eTo_s, h3.1] at h2
      omega
  exact this (d - t) t (by omega)
theorem mz_lt {M : rM} {w : Int32} {t s : Nat} (h : eNum 6 (eBd M w t s) = 0) : eMis M w t s = eNum 6 (eMz M w t s) := by unfold eMis; rw [if_pos h]
theorem agrees_e {d c : Nat} {MC : cM} {MR : rM} {w : Int32} (g8 : eG8 MC MR) (h67 : rg MR 12 0 67 = nI d) (hd1 : 1 ≤ d) (hd : d ≤ 5) (hc : c < 2 ^ 31) {A : Nat} (hA : A ≤ 3) (h6 : rg MR 1312 0 6 = nI A) : m12_agrees (nI c) w MR = some (if eTo MR w d c ≤ A then 1 else 0, MR) := by
  unfold m12_agrees
  refine eloop0 (fun f t => eTo MR w t (ePre d c t) < 100 → m12_agrees_5 f (nI c) w (nI (eTo MR w t (ePre d c t))) (nI t) MR = some (if eTo MR w d c ≤ A then 1 else 0, MR)) (m := d) (k0 := 0) (by omega) ?_ ?_ (zfu_gt (by omega)) (show 0 < 100 by decide)
  · intro f hlt
    rw [ePre_d] at hlt ⊢
    simp only [m12_agrees_5, h67, eI_le (show d < 2 ^ 31 by omega) (show d < 2 ^ 31 by omega), show (d ≤ d) = True from eq_true (by omega), show zin 6 7 = true from rfl, nx_k 6 (by decide), h6, eI_lt (show A < 2 ^ 31 by omega) (show eTo MR w d c < 2 ^ 31 by omega), zbd_s, zbv_s, zgd_t, Bool.and_true, Bool.true_and, Bool.and_self, if_true, if_false, e_01, eq_self, Bool.false_eq_true]
    by_cases h : eTo MR w d c ≤ A
    · rw [if_neg (by omega), if_pos h]
    · rw [if_pos (by omega), if_neg h]
  · intro f t _ ht ih hlt
    have ht5 : t < 5 := by omega
    have h3 := ePre_s (d := d) (c := c) ht
    have hp := eTo_s MR w t (ePre d c (t + 1))
    rw [h3.1, h3.2] at hp
    have hmono := eTo_pre (M := MR) (w := w) (c := c) (show t + 1 ≤ d by omega)
    have hdl := eDg_lt d c t
    have hears := fun x1 k5 => ears_e (acc := eTo MR w t (ePre d c t)) g8 ht5 hdl w x1 k5
    have hbody : (decide (t = 0) || eGo MR (ePre d c t % 6) (eDg d c t)) = true → m12_agrees_66 (m12_agrees_5 f) (nI c) w (nI (eTo MR w t (ePre d c t))) (nI t) (nI (eDg d c t)) MR = some (if eTo MR w d c ≤ A then 1 else 0, MR) := by
      intro hgo
      rw [if_pos hgo] at hp
      unfold m12_agrees_66
      rw [hears]
      by_cases hb : eNum 6 (eBd MR w t (eDg d c t)) = 0
      · rw [if_pos hb]
        have hz := mz_lt hb
        have hn := eNum_le 6 (eMz MR w t (eDg d c t))
        rw [hz] at hp
        rw [show eTo MR w t (ePre d c t) + eNum 6 (eMz MR w t (eDg d c t)) = eTo MR w (t + 1) (ePre d c (t + 1)) by omega]
        by_cases hlt2 : eTo MR w (t + 1) (ePre d c (t + 1)) < 100
        · exact ih hlt2
        · -- cannot be: at most 6 a tick
          exfalso
          have hall : ∀ t, eTo MR w t (ePre d c t) < 100 → eTo MR w t (ePre d c t) ≤ 6 * t := by
            intro t
            induction t with
            | zero => intro _; exact Nat.le_refl _
            | succ t iht =>
              intro h
              by_cases htd : t < d
              · have h3 := ePre_s (d := d) (c := c) htd
                have hp := eTo_s MR w t (ePre d c (t + 1))
                rw [h3.1, h3.2] at hp
                have hm : eMis MR w t (eDg d c t) ≤ 6 := by
                  unfold eMis at hp ⊢
                  split
                  · exact eNum_le 6 _
                  · rename_i hne; rw [if_neg hne] at hp; omega
                have := iht (by omega)
                split at hp <;> omega
              · have e1 : ePre d c (t + 1) = c := by unfold ePre; rw [show d - (t + 1) = 0 by omega, Nat.pow_zero, Nat.div_one]
                rw [e1] at h ⊢
                have e2 : ∀ j c, eTo MR w j c < 100 → eTo MR w j c ≤ 6 * j := by
                  intro j
                  induction j with
                  | zero => intro c _; exact Nat.le_refl _
                  | succ j ihj =>
                    intro c h
                    have hp := eTo_s MR w j c
                    have hm : eMis MR w j (c % 6) ≤ 6 := by
                      unfold eMis at hp ⊢
                      split
                      · exact eNum_le 6 _
                      · rename_i hne; rw [if_neg hne] at hp; omega
                    have := ihj (c / 6) (by omega)
                    split at hp <;> omega
                exact e2 (t + 1) c h
          have := hall t hlt
          omega
      · rw [if_neg hb]
        have : eMis MR w t (eDg d c t) = 100 := by unfold eMis; rw [if_neg hb]
        rw [if_neg (by omega)]
    by_cases ht0 : t = 0
    · subst ht0
      simp only [m12_agrees_5, h67, eI_le (show d < 2 ^ 31 by omega) (show 0 < 2 ^ 31 by omega), show (d ≤ 0) = False from eq_false (by omega), spot_e h67 hd ht hc, show (nI 0 ≤ 0) = True from eq_true (by decide), zbd_s, zbv_s, zgd_t, Bool.and_true, Bool.true_and, Bool.and_self, if_true, if_false, e_01, eq_self, Bool.false_eq_true]
      exact hbody rfl
    · obtain ⟨u, rfl⟩ : ∃ u, t = u + 1 := ⟨t - 1, by omega⟩
      have h4 := ePre_s (d := d) (c := c) (show u < d by omega)
      have hul := eDg_lt d c u
      simp only [m12_agrees_5, h67, eI_le (show d < 2 ^ 31 by omega) (show (u + 1) < 2 ^ 31 by omega), show (d ≤ (u + 1)) = False from eq_false (by omega), nI_sub1, spot_e h67 hd ht hc, spot_e h67 hd (show u < d by omega) hc, eI_pos (show u + 1 < 2 ^ 31 by omega), show (u + 1 = 0) = False from eq_false (by omega), eI_inj (show eDg d c (u + 1) < 2 ^ 31 by omega) (show eDg d c u < 2 ^ 31 by omega), ezin_nI (show eDg d c (u + 1) < 6 by omega) (show 6 < 2 ^ 31 by decide), ex_nI (show eDg d c (u + 1) < 2 ^ 31 by omega), isIn_y (show eDg d c u < 32 by omega), ei_1, zbd_s, zbv_s, zgd_t, Bool.and_true, Bool.true_and, Bool.and_self, if_true, if_false, e_01, eq_self, Bool.false_eq_true]
      rw [h4.2] at hbody hp
      have hsym := eGo_sym g8 hul hdl
      by_cases c1 : eDg d c (u + 1) = eDg d c u
      · simp only [c1, if_true]
        rw [← c1]
        exact hbody (by rw [hsym]; simp [c1])
      · simp only [c1, if_false]
        cases c2 : eb (rg MR 1368 0 (eDg d c (u + 1))) (eDg d c u) with
        | true =>
          simp only [reduceCtorEq, if_false]
          exact hbody (by rw [hsym, c2]; simp)
        | false =>
          simp only [if_true]
          have hgo : (decide (u + 1 = 0) || eGo MR (eDg d c u) (eDg d c (u + 1))) = false := by
            rw [hsym, c2]; simp [c1]
          rw [hgo] at hp
          simp only [Bool.false_eq_true, if_false] at hp
          rw [if_neg (by omega)]
theorem all_e {d : Nat} {M : rM} (h67 : rg M 12 0 67 = nI d) (hd : d ≤ 5) : m12_allCourses M = some (nI (6 ^ d), M) := by
  unfold m12_allCourses
  refine eloop0 (fun f t => m12_allCourses_4 f (nI (6 ^ t)) (nI t) M = some (nI (6 ^ d), M)) (m := d) (k0 := 0) (by omega) ?_ ?_ (zfu_gt (by omega))
  · intro f
    simp only [m12_allCourses_4, h67, eI_le (show d < 2 ^ 31 by omega) (show d < 2 ^ 31 by omega), show (d ≤ d) = True from eq_true (by omega), zbd_s, zbv_s, zgd_t, Bool.and_true, Bool.true_and, Bool.and_self, if_true, if_false, e_01, eq_self, Bool.false_eq_true]
  · intro f t _ ht ih
    simp only [m12_allCourses_4, h67, eI_le (show d < 2 ^ 31 by omega) (show t < 2 ^ 31 by omega), show (d ≤ t) = False from eq_false (by omega), show (6 : Int32) = nI 6 from rfl, eI_mul, ep1, zbd_s, zbv_s, zgd_t, Bool.and_true, Bool.true_and, Bool.and_self, if_true, if_false, e_01, eq_self, Bool.false_eq_true]
    rw [← Nat.pow_succ]; exact ih
/-- the courses that agree, below n -/
def eLs (p : Nat → Bool) (n : Nat) : List Nat := (List.range n).filter p
theorem eLs_s (p : Nat → Bool) (n : Nat) : eLs p (n + 1) = eLs p n ++ if p n then [n] else [] := by
  unfold eLs
  rw [List.range_succ, List.filter_append]
  congr 1
  cases h : p n <;> simp [h]
theorem eLs_len (p : Nat → Bool) (n : Nat) : (eLs p n).length ≤ n := by
  have := List.length_filter_le p (List.range n)
  unfold eLs; rw [List.length_range] at this; exact this
def eArR (M : rM) (k : Nat) (l : List Nat) : Prop := ∀ i x, l[i]? = some x → rg M k 0 i = nI x
theorem eArR_app {M : rM} {k : Nat} {l : List Nat} {x : Nat} (h : eArR M k l) : eArR (rs M k 0 l.length (nI x)) k (l ++ [x]) := by
  intro i y hy
  rw [List.getElem?_append] at hy
  split at hy
  · rw [rg_rs, if_neg (by omega)]; exact h i y hy
  · rename_i hl
    have : i - l.length = 0 := by
      cases hh : i - l.length with
      | zero => rfl
      | succ j => rw [hh] at hy; simp at hy
    rw [this] at hy
    simp at hy
    subst hy
    have : i = l.length := by omega
    subst this
    simp [rg_rs]
theorem find_e {d : Nat} {MC : cM} {MR : rM} {w : Int32} (g8 : eG8 MC MR) (h67 : rg MR 12 0 67 = nI d) (hd1 : 1 ≤ d) (hd : d ≤ 5) {A : Nat} (hA : A ≤ 3) (h6 : rg MR 1312 0 6 = nI A) : ∃ MR', m12_findCourses w MR = some MR' ∧ eH [11272, 1373] MR MR' ∧ rg MR' 12 0 72 = nI (eLs (fun c => decide (eTo MR w d c ≤ A)) (6 ^ d)).length ∧ eArR MR' 1373 (eLs (fun c => decide (eTo MR w d c ≤ A)) (6 ^ d)) := by
  have hp : 6 ^ d ≤ 6 ^ 5 := Nat.pow_le_pow_right (by decide) hd
  have hp5 : (6 : Nat) ^ 5 = 7776 := by decide
  unfold m12_findCourses
  refine eloop (σ := rM) (fun f k M => ∃ MR', m12_findCourses_7 f w (nI k) M = some MR' ∧ eH [11272, 1373] MR MR' ∧ rg MR' 12 0 72 = nI (eLs (fun c => decide (eTo MR w d c ≤ A)) (6 ^ d)).length ∧ eArR MR' 1373 (eLs (fun c => decide (eTo MR w d c ≤ A)) (6 ^ d))) (fun k M => eH [11272, 1373] MR M ∧ rg M 12 0 72 = nI (eLs (fun c => decide (eTo MR w d c ≤ A)) k).length ∧ eArR M 1373 (eLs (fun c => decide (eTo MR w d c ≤ A)) k)) (m := 6 ^ d) (k0 := 0) (Nat.zero_le _) ?_ ?_ (zfu_gt (by omega)) ⟨eH_rs eH_refl rfl, rfl, fun i x h => by simp [eLs] at h⟩
  · rintro f M ⟨i1, i2, i3⟩
    have h67' : rg M 12 0 67 = nI d := by rw [i1 12 0 67 rfl, h67]
    simp only [m12_findCourses_7, all_e h67' hd, eI_le (show 6 ^ d < 2 ^ 31 by omega) (show 6 ^ d < 2 ^ 31 by omega), show (6 ^ d ≤ 6 ^ d) = True from eq_true (by omega), zbd_s, zbv_s, zgd_t, Bool.and_true, Bool.true_and, Bool.and_self, if_true, if_false, e_01, eq_self, Bool.false_eq_true]
    exact ⟨M, rfl, i1, i2, i3⟩
  · rintro f k M _ hk ⟨i1, i2, i3⟩ ih
    have h67' : rg M 12 0 67 = nI d := by rw [i1 12 0 67 rfl, h67]
    have h6' : rg M 1312 0 6 = nI A := by rw [i1 1312 0 6 rfl, h6]
    have g8' : eG8 MC M := eG8_fr g8 (eF_refl (K := [])) i1 ⟨rfl, rfl⟩ rfl rfl
    have hTo : eTo M w d k = eTo MR w d k := by
      have : ∀ t c, eTo M w t c = eTo MR w t c := by
        intro t
        induction t with
        | zero => intro c; rfl
        | succ t iht =>
          intro c
          rw [eTo_s, eTo_s, iht]
          have e1 : eMis M w t (c % 6) = eMis MR w t (c % 6) := by
            have q1 : eBd M w t (c % 6) = eBd MR w t (c % 6) := by
              funext e; unfold eBd eHe; rw [i1 1370 0 _ rfl, i1 1369 0 e rfl]
            have q2 : eMz M w t (c % 6) = eMz MR w t (c % 6) := by
              funext e; unfold eMz eHe; rw [i1 1370 0 _ rfl, i1 1369 0 e rfl]
            unfold eMis; rw [q1, q2]
          have e2 : eGo M (c / 6 % 6) (c % 6) = eGo MR (c / 6 % 6) (c % 6) := by
            unfold eGo; rw [i1 1368 0 _ rfl]
          rw [e1, e2]
      exact this d k
    have hln := eLs_len (fun c => decide (eTo MR w d c ≤ A)) k
    simp only [m12_findCourses_7, m12_findCourses_44, all_e h67' hd, eI_le (show 6 ^ d < 2 ^ 31 by omega) (show k < 2 ^ 31 by omega), show (6 ^ d ≤ k) = False from eq_false (by omega), agrees_e g8' h67' hd1 hd (show k < 2 ^ 31 by omega) hA h6', hTo, ep1, zbd_s, zbv_s, zgd_t, Bool.and_true, Bool.true_and, Bool.and_self, if_true, if_false, e_01, eq_self, Bool.false_eq_true]
    rw [eLs_s] at ih
    by_cases hag : eTo MR w d k ≤ A
    · simp only [hag, if_true, e_01, if_false, i2]
      have hz : zin (nI (eLs (fun c => decide (eTo MR w d c ≤ A)) k).length) 7776 = true := ezin_nI (by omega) (by decide)
      have hx : nx (nI (eLs (fun c => decide (eTo MR w d c ≤ A)) k).length) = (eLs (fun c => decide (eTo MR w d c ≤ A)) k).length := ex_nI (by omega)
      have e72 : ∀ i v, rg (rs M 1373 0 i v) 12 0 72 = nI (eLs (fun c => decide (eTo MR w d c ≤ A)) k).length := by
        intro i v; rw [rg_rs, if_neg (by omega), i2]
      simp only [hz, hx, e72, Bool.and_true, zgd_t, ep1]
      have hdec : decide (eTo MR w d k ≤ A) = true := decide_eq_true hag
      simp only [hdec, if_true] at ih
      refine ih _ ⟨eH_rs (eH_rs i1 rfl) rfl, ?_, ?_⟩
      · rw [List.length_append]; rfl
      · have := eArR_app (x := k) i3
        intro i x hix
        rw [rg_rs, if_neg (by omega)]
        exact this i x hix
    · simp only [hag, if_false, if_true]
      have hdec : decide (eTo MR w d k ≤ A) = false := decide_eq_false hag
      simp only [hdec, Bool.false_eq_true, if_false, List.append_nil] at ih
      exact ih _ ⟨i1, i2, i3⟩
