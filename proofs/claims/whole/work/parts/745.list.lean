theorem weigh_c {d : Nat} {MC : cM} {MR : rM} (g8 : eG8 MC MR) (h1 : cg MC 4 0 1 = nI d) (hd : d ≤ 5) (w : Int32) : ∃ MC', m4_weighSpots w MC = some MC' ∧ eF [506] MC MC' ∧ MC'.2 = MC.2 ∧ ∀ t s, t < d → s < 6 → cg MC' 506 0 (6 * t + s) = nI (eMis MR w t s) := by
  unfold m4_weighSpots
  refine eloop (σ := cM) (fun f t M => ∃ MC', m4_weighSpots_2 f w (nI t) M = some MC' ∧ eF [506] MC MC' ∧ MC'.2 = MC.2 ∧ ∀ t s, t < d → s < 6 → cg MC' 506 0 (6 * t + s) = nI (eMis MR w t s)) (fun t M => eF [506] MC M ∧ M.2 = MC.2 ∧ ∀ u s, u < t → s < 6 → cg M 506 0 (6 * u + s) = nI (eMis MR w u s)) (m := d) (k0 := 0) (by omega) ?_ ?_ (zfu_gt (by omega)) ⟨eF_refl, rfl, fun u s h => absurd h (by omega)⟩
  · rintro f M ⟨i1, i2, i3⟩
    have h1' : cg M 4 0 1 = nI d := by rw [i1 4 0 1 rfl, h1]
    simp only [m4_weighSpots_2, h1', eI_le (show d < 2 ^ 31 by omega) (show d < 2 ^ 31 by omega), show (d ≤ d) = True from eq_true (by omega), zbd_s, zbv_s, zgd_t, Bool.and_true, Bool.true_and, Bool.and_self, if_true, if_false, e_01, eq_self, Bool.false_eq_true]
    exact ⟨M, rfl, i1, i2, i3⟩
  · rintro f t M _ ht ⟨i1, i2, i3⟩ ih
    have h1' : cg M 4 0 1 = nI d := by rw [i1 4 0 1 rfl, h1]
    simp only [m4_weighSpots_2, h1', eI_le (show d < 2 ^ 31 by omega) (show t < 2 ^ 31 by omega), show (d ≤ t) = False from eq_false (by omega), show ((5 : Int32) ≤ nI t) = False from eq_false (by rw [show (5 : Int32) = nI 5 from rfl, eI_le (by omega) (by omega)]; omega), zbd_s, zbv_s, zgd_t, Bool.and_true, Bool.true_and, Bool.and_self, if_true, if_false, e_01, eq_self, Bool.false_eq_true]
    refine eloop (σ := cM) (fun f' s M' => ∃ MC', m4_weighSpots_17 (m4_weighSpots_2 f) f' w (nI t) (nI s) M' = some MC' ∧ eF [506] MC MC' ∧ MC'.2 = MC.2 ∧ ∀ t s, t < d → s < 6 → cg MC' 506 0 (6 * t + s) = nI (eMis MR w t s)) (fun s M' => eF [506] MC M' ∧ M'.2 = MC.2 ∧ (∀ u s, u < t → s < 6 → cg M' 506 0 (6 * u + s) = nI (eMis MR w u s)) ∧ ∀ v, v < s → cg M' 506 0 (6 * t + v) = nI (eMis MR w t v)) (m := 6) (k0 := 0) (by omega) ?_ ?_ (zfu_gt (by omega)) ⟨i1, i2, i3, fun v h => absurd h (by omega)⟩
    · rintro f' M' ⟨j1, j2, j3, j4⟩
      simp only [m4_weighSpots_17, show ((6 : Int32) ≤ nI 6) = True from eq_true (by decide), ep1, zbd_s, zbv_s, zgd_t, Bool.and_true, Bool.true_and, Bool.and_self, if_true, if_false, e_01, eq_self, Bool.false_eq_true]
      refine ih M' ⟨j1, j2, fun u s hu hs => ?_⟩
      by_cases hut : u = t
      · subst hut; exact j4 s hs
      · exact j3 u s (by omega) hs
    · rintro f' s M' _ hs ⟨j1, j2, j3, j4⟩ ih'
      have g8' : eG8 M' MR := eG8_fr g8 j1 (eH_refl (K := [])) (by unfold cp; rw [j2]; exact ⟨rfl, rfl⟩) rfl rfl
      simp only [m4_weighSpots_17, show ((6 : Int32) ≤ nI s) = False from eq_false (by rw [show (6 : Int32) = nI 6 from rfl, eI_le (by omega) (by omega)]; omega), mis_c g8' (show t < 5 by omega) hs, e6, eI_add, ezin_nI (show 6 * t + s < 30 by omega) (show 30 < 2 ^ 31 by decide), ex_nI (show 6 * t + s < 2 ^ 31 by omega), ep1, zbd_s, zbv_s, zgd_t, Bool.and_true, Bool.true_and, Bool.and_self, if_true, if_false, e_01, eq_self, Bool.false_eq_true]
      refine ih' _ ⟨eF_cs j1 rfl, j2, fun u v hu hv => ?_, fun v hv => ?_⟩
      · rw [cg_cs, if_neg (by omega)]; exact j3 u v hu hv
      · by_cases hvs : v = s
        · subst hvs; simp [cg_cs]
        · rw [cg_cs, if_neg (by omega)]; exact j4 v (by omega)
theorem missed_c {t s : Nat} (ht : t < 5) (hs : s < 6) (M : cM) : m4_missedAt (nI t) (nI s) M = some (cg M 506 0 (6 * t + s), M) := by
  unfold m4_missedAt
  rw [e6, eI_add, if_neg, if_neg]
  · simp only [ezin_nI (show 6 * t + s < 30 by omega) (show 30 < 2 ^ 31 by decide), ex_nI (show 6 * t + s < 2 ^ 31 by omega), zbd_s, zbv_s, zgd_t, Bool.and_true, Bool.true_and, Bool.and_self, if_true, if_false, e_01, eq_self, Bool.false_eq_true]
  · rw [show (30 : Int32) = nI 30 from rfl, eI_le (by omega) (by omega)]; omega
  · rw [show (0 : Int32) = nI 0 from rfl, eI_lt (by omega) (by omega)]; omega
theorem go_c {a b : Nat} {MC : cM} {MR : rM} (g8 : eG8 MC MR) (ha : a < 6) (hb : b < 6) : m4_mayGo (nI a) (nI b) MC = some (if eGo MR a b then 1 else 0, MC) := by
  unfold m4_mayGo eGo
  simp only [sp_y ha, ezin_nI (show a < 6 by omega) (show 6 < 2 ^ 31 by decide), ex_nI (show a < 2 ^ 31 by omega), zshr1_1 (show b < 32 by omega), eI_inj (show a < 2 ^ 31 by omega) (show b < 2 ^ 31 by omega), (g8.2.2.2.2.1 a ha).1, zbd_s, zbv_s, zgd_t, Bool.and_true, Bool.true_and, Bool.and_self, if_true, if_false, e_01, eq_self, Bool.false_eq_true]
  by_cases c : a = b
  · simp [c]
  · cases eb (rg MR 1368 0 a) b <;> simp [c]
/-- the courses of the first t ticks that agree, and how one is kept while it grows -/
def eQ (MR : rM) (w : Int32) (A t c : Nat) : Bool := decide (eTo MR w t c ≤ A)
def eVl (MR : rM) (w : Int32) (t c : Nat) : Nat := 4 * c + eTo MR w t c
theorem eLs_mem {p : Nat → Bool} {n x : Nat} (h : x ∈ eLs p n) : x < n ∧ p x = true := by
  unfold eLs at h
  rw [List.mem_filter, List.mem_range] at h; exact h
theorem grow_c {d t A : Nat} {MC : cM} {MR : rM} {w : Int32} (g8 : eG8 MC MR) (hd : d ≤ 5) (ht1 : 1 ≤ t) (ht : t < d) (hA : A ≤ 3) (hm : ∀ s, s < 6 → cg MC 506 0 (6 * t + s) = nI (eMis MR w t s)) (hL : eArC MC 510 (eLs (eQ MR w A t) (6 ^ t)) (eVl MR w t)) : ∃ MC', m4_growCourses (nI t) (nI (eLs (eQ MR w A t) (6 ^ t)).length) (nI A) MC = some (nI (eLs (eQ MR w A (t + 1)) (6 ^ (t + 1))).length, MC') ∧ eF [510, 511] MC MC' ∧ MC'.2 = MC.2 ∧ eArC MC' 510 (eLs (eQ MR w A (t + 1)) (6 ^ (t + 1))) (eVl MR w (t + 1)) := by
  have hp : 6 ^ t ≤ 6 ^ 4 := Nat.pow_le_pow_right (by decide) (by omega)
  have hp4 : (6 : Nat) ^ 4 = 1296 := by decide
  obtain ⟨L, hLd⟩ : ∃ L, L = eLs (eQ MR w A t) (6 ^ t) := ⟨_, rfl⟩
  have hlen : L.length ≤ 1296 := by rw [hLd]; have := eLs_len (eQ MR w A t) (6 ^ t); omega
  have hq : ∀ c s, s < 6 → eQ MR w A (t + 1) (6 * c + s) = true → eQ MR w A t c = true := by
    intro c s hs h
    unfold eQ at *
    rw [eTo_s, show (6 * c + s) / 6 = c by omega] at h
    rw [decide_eq_true_eq] at *; omega
  have hgrow : eLs (eQ MR w A (t + 1)) (6 ^ (t + 1)) = L.flatMap (fun c => eG6f (eQ MR w A (t + 1)) c 6) := by
    rw [Nat.pow_succ, Nat.mul_comm, eLs_grow hq, hLd]
  rw [← hLd] at hL ⊢
  rw [hgrow]
  have hmem : ∀ i c : Nat, L[i]? = some c → c < 1296 ∧ eTo MR w t c ≤ A := by
    intro i c h
    have := List.mem_of_getElem? h
    rw [hLd] at this
    have := eLs_mem this
    unfold eQ at this
    rw [decide_eq_true_eq] at this
    exact ⟨by omega, this.2⟩
  unfold m4_growCourses mJ9_min
  have hmin : (if (1296 : Int32) < nI L.length then some ((1296 : Int32), MC) else some (nI L.length, MC)) = some (nI L.length, MC) := by
    rw [if_neg]; rw [show (1296 : Int32) = nI 1296 from rfl, eI_lt (by omega) (by omega)]; omega
  rw [hmin, zbd_s]
  -- the old ones are set aside
  refine eloop (σ := cM) (fun f i M => ∃ MC', m4_growCourses_14 f (nI t) (nI A) (nI L.length) (nI i) M = some (nI (L.flatMap (fun c => eG6f (eQ MR w A (t + 1)) c 6)).length, MC') ∧ eF [510, 511] MC MC' ∧ MC'.2 = MC.2 ∧ eArC MC' 510 (L.flatMap (fun c => eG6f (eQ MR w A (t + 1)) c 6)) (eVl MR w (t + 1))) (fun i M => eF [511] MC M ∧ M.2 = MC.2 ∧ ∀ j, j < i → cg M 511 0 j = cg MC 510 0 j) (m := L.length) (k0 := 0) (Nat.zero_le _) ?_ ?_ (zfu_gt (by omega)) ⟨eF_refl, rfl, fun j h => absurd h (by omega)⟩
  · rintro f M ⟨i1, i2, i3⟩
    simp only [m4_growCourses_14, eI_le (show L.length < 2 ^ 31 by omega) (show L.length < 2 ^ 31 by omega), show (L.length ≤ L.length) = True from eq_true (by omega), zbd_s, zbv_s, zgd_t, Bool.and_true, Bool.true_and, Bool.and_self, if_true, if_false, e_01, eq_self, Bool.false_eq_true]
    refine eloop (σ := cM) (fun f i M' => ∃ MC', m4_growCourses_47 f (nI t) (nI A) (nI L.length) (nI ((L.take i).flatMap (fun c => eG6f (eQ MR w A (t + 1)) c 6)).length) (nI i) M' = some (nI (L.flatMap (fun c => eG6f (eQ MR w A (t + 1)) c 6)).length, MC') ∧ eF [510, 511] MC MC' ∧ MC'.2 = MC.2 ∧ eArC MC' 510 (L.flatMap (fun c => eG6f (eQ MR w A (t + 1)) c 6)) (eVl MR w (t + 1))) (fun i M' => eF [510] M M' ∧ M'.2 = MC.2 ∧ ((L.take i).flatMap (fun c => eG6f (eQ MR w A (t + 1)) c 6)).length ≤ 6 * i ∧ eArC M' 510 ((L.take i).flatMap (fun c => eG6f (eQ MR w A (t + 1)) c 6)) (eVl MR w (t + 1))) (m := L.length) (k0 := 0) (Nat.zero_le _) ?_ ?_ (zfu_gt (by omega)) ⟨eF_refl, i2, by simp, fun i x h => by simp at h⟩
    · rintro f M' ⟨j1, j2, j3, j4⟩
      rw [List.take_length] at j4
      simp only [m4_growCourses_47, eI_le (show L.length < 2 ^ 31 by omega) (show L.length < 2 ^ 31 by omega), show (L.length ≤ L.length) = True from eq_true (by omega), zbd_s, zbv_s, zgd_t, Bool.and_true, Bool.true_and, Bool.and_self, if_true, if_false, e_01, eq_self, Bool.false_eq_true]
      exact ⟨M', by rw [List.take_length], eF_trans (eF_mono i1 rfl) (eF_mono j1 rfl), j2, j4⟩
    · rintro f i M' _ hi ⟨j1, j2, j3, j4⟩ ih
      obtain ⟨c, hc⟩ : ∃ c, L[i]? = some c := ⟨L[i], List.getElem?_eq_getElem hi⟩
      obtain ⟨hc1, hc2⟩ := hmem i c hc
      have h511 : cg M' 511 0 i = nI (4 * c + eTo MR w t c) := by
        rw [j1 511 0 i rfl, i3 i hi]; exact hL i c hc
      have hlow : eTo MR w t c < 4 := by omega
      have hzi : zin (nI i) 1296 = true := ezin_nI (by omega) (by decide)
      have hxi : nx (nI i) = i := ex_nI (by omega)
      simp only [m4_growCourses_47, eI_le (show L.length < 2 ^ 31 by omega) (show i < 2 ^ 31 by omega), show (L.length ≤ i) = False from eq_false (by omega), hzi, hxi, h511, hi4 hlow (show 4 * c + eTo MR w t c < 2 ^ 31 by omega), zbd_s, zbv_s, zgd_t, Bool.and_true, Bool.true_and, Bool.and_self, if_true, if_false, e_01, eq_self, Bool.false_eq_true]
      have htk : L.take (i + 1) = L.take i ++ [c] := by rw [List.take_succ, hc]; rfl
      refine eloop (σ := cM) (fun f' s N => ∃ MC', m4_growCourses_68 (m4_growCourses_47 f) f' (nI t) (nI A) (nI L.length) (nI ((L.take i).flatMap (fun c => eG6f (eQ MR w A (t + 1)) c 6) ++ eG6f (eQ MR w A (t + 1)) c s).length) (nI i) (nI c) (nI s) N = some (nI (L.flatMap (fun c => eG6f (eQ MR w A (t + 1)) c 6)).length, MC') ∧ eF [510, 511] MC MC' ∧ MC'.2 = MC.2 ∧ eArC MC' 510 (L.flatMap (fun c => eG6f (eQ MR w A (t + 1)) c 6)) (eVl MR w (t + 1))) (fun s N => eF [510] M N ∧ N.2 = MC.2 ∧ eArC N 510 ((L.take i).flatMap (fun c => eG6f (eQ MR w A (t + 1)) c 6) ++ eG6f (eQ MR w A (t + 1)) c s) (eVl MR w (t + 1))) (m := 6) (k0 := 0) (by omega) ?_ ?_ (zfu_gt (by omega)) ⟨j1, j2, by rw [show eG6f (eQ MR w A (t + 1)) c 0 = [] from rfl, List.append_nil]; exact j4⟩ |> fun h => by rw [show eG6f (eQ MR w A (t + 1)) c 0 = [] from rfl, List.append_nil] at h; exact h
      · rintro f' N ⟨l1, l2, l3⟩
        simp only [m4_growCourses_68, show ((6 : Int32) ≤ nI 6) = True from eq_true (by decide), ep1, zbd_s, zbv_s, zgd_t, Bool.and_true, Bool.true_and, Bool.and_self, if_true, if_false, e_01, eq_self, Bool.false_eq_true]
        have hfm : (L.take (i + 1)).flatMap (fun c => eG6f (eQ MR w A (t + 1)) c 6) = (L.take i).flatMap (fun c => eG6f (eQ MR w A (t + 1)) c 6) ++ eG6f (eQ MR w A (t + 1)) c 6 := by
          rw [htk, List.flatMap_append]; simp
        have := ih N ⟨l1, l2, by rw [hfm, List.length_append]; have := eG6f_len (eQ MR w A (t + 1)) c 6; omega, by rw [hfm]; exact l3⟩
        rw [hfm] at this
        exact this
      · rintro f' s N _ hs ⟨l1, l2, l3⟩ ih'
        have g8' : eG8 N MR := eG8_fr g8 (eF_trans (eF_mono i1 rfl : eF [510, 511] MC M) (eF_mono l1 rfl)) (eH_refl (K := [])) (by unfold cp; rw [l2]; exact ⟨rfl, rfl⟩) rfl rfl
        have hms : cg N 506 0 (6 * t + s) = nI (eMis MR w t s) := by rw [l1 506 0 _ rfl, i1 506 0 _ rfl, hm s hs]
        have h511' : cg N 511 0 i = nI (4 * c + eTo MR w t c) := by rw [l1 511 0 i rfl, i3 i hi]; exact hL i c hc
        have hml := eMis_le MR w t s
        have hln := eG6f_len (eQ MR w A (t + 1)) c s
        have hs1 := eTo_s MR w t (6 * c + s)
        rw [show (6 * c + s) / 6 = c by omega, show (6 * c + s) % 6 = s by omega, show decide (t = 0) = false from decide_eq_false (by omega), Bool.false_or] at hs1
        rw [eG6f_s] at ih'
        have hzl : zin (nI ((L.take i).flatMap (fun c => eG6f (eQ MR w A (t + 1)) c 6) ++ eG6f (eQ MR w A (t + 1)) c s).length) 7776 = true := ezin_nI (by rw [List.length_append]; omega) (by decide)
        have hxl : nx (nI ((L.take i).flatMap (fun c => eG6f (eQ MR w A (t + 1)) c 6) ++ eG6f (eQ MR w A (t + 1)) c s).length) = ((L.take i).flatMap (fun c => eG6f (eQ MR w A (t + 1)) c 6) ++ eG6f (eQ MR w A (t + 1)) c s).length := ex_nI (by rw [List.length_append]; omega)
        have hll : (nI ((L.take i).flatMap (fun c => eG6f (eQ MR w A (t + 1)) c 6) ++ eG6f (eQ MR w A (t + 1)) c s).length < 7776) = True := eq_true (by rw [show (7776 : Int32) = nI 7776 from rfl, eI_lt (by rw [List.length_append]; omega) (by omega), List.length_append]; omega)
        simp only [m4_growCourses_68, m4_growCourses_151, show ((6 : Int32) ≤ nI s) = False from eq_false (by rw [show (6 : Int32) = nI 6 from rfl, eI_le (by omega) (by omega)]; omega), missed_c (show t < 5 by omega) hs, hms, hzi, hxi, h511', lo4 hlow, eI_add, eI_lt (show A < 2 ^ 31 by omega) (show eTo MR w t c + eMis MR w t s < 2 ^ 31 by omega), show znz 6 = true from rfl, zrem6 (show c < 2 ^ 31 by omega), go_c g8' (show c % 6 < 6 by omega) hs, ei_1, ep1, zbd_s, zbv_s, zgd_t, Bool.and_true, Bool.true_and, Bool.and_self, if_true, if_false, e_01, eq_self, Bool.false_eq_true]
        by_cases c1 : A < eTo MR w t c + eMis MR w t s
        · have hqf : eQ MR w A (t + 1) (6 * c + s) = false := by unfold eQ; rw [decide_eq_false_iff_not]; omega
          simp only [c1, if_true]
          rw [hqf] at ih'
          have := ih' N ⟨l1, l2, by simpa using l3⟩
          simpa using this
        · simp only [c1, if_false]
          cases c2 : eGo MR (c % 6) s with
          | false =>
            have hqf : eQ MR w A (t + 1) (6 * c + s) = false := by
              unfold eQ; rw [decide_eq_false_iff_not]; rw [c2] at hs1; simp at hs1; omega
            simp only [if_true]
            rw [hqf] at ih'
            have := ih' N ⟨l1, l2, by simpa using l3⟩
            simpa using this
          | true =>
            rw [c2] at hs1
            simp only [if_true, Nat.add_zero] at hs1
            have hqt : eQ MR w A (t + 1) (6 * c + s) = true := by unfold eQ; rw [decide_eq_true_eq]; omega
            simp only [reduceCtorEq, if_false, hll, if_true, hzl, hxl, Bool.and_true, zgd_t, e6, eI_add]
            rw [pack4 (show eTo MR w t c + eMis MR w t s < 4 by omega), show 4 * (6 * c + s) + (eTo MR w t c + eMis MR w t s) = eVl MR w (t + 1) (6 * c + s) by unfold eVl; omega]
            rw [hqt] at ih'
            have := ih' (cs N 510 0 ((L.take i).flatMap (fun c => eG6f (eQ MR w A (t + 1)) c 6) ++ eG6f (eQ MR w A (t + 1)) c s).length (nI (eVl MR w (t + 1) (6 * c + s)))) ⟨eF_cs l1 rfl, l2, by
              have := eArC_app (x := 6 * c + s) l3
              simpa [List.append_assoc] using this⟩
            rw [show ((L.take i).flatMap (fun c => eG6f (eQ MR w A (t + 1)) c 6) ++ (eG6f (eQ MR w A (t + 1)) c s ++ if true = true then [6 * c + s] else [])).length = ((L.take i).flatMap (fun c => eG6f (eQ MR w A (t + 1)) c 6) ++ eG6f (eQ MR w A (t + 1)) c s).length + 1 by simp; omega] at this
            exact this
  · rintro f i M _ hi ⟨i1, i2, i3⟩ ih
    have e : cg M 510 0 i = cg MC 510 0 i := i1 510 0 i rfl
    simp only [m4_growCourses_14, eI_le (show L.length < 2 ^ 31 by omega) (show i < 2 ^ 31 by omega), show (L.length ≤ i) = False from eq_false (by omega), ezin_nI (show i < 7776 by omega) (show 7776 < 2 ^ 31 by decide), ex_nI (show i < 2 ^ 31 by omega), ezin_nI (show i < 1296 by omega) (show 1296 < 2 ^ 31 by decide), e, ep1, zbd_s, zbv_s, zgd_t, Bool.and_true, Bool.true_and, Bool.and_self, if_true, if_false, e_01, eq_self, Bool.false_eq_true]
    refine ih _ ⟨eF_cs i1 rfl, i2, fun j hj => ?_⟩
    have := i3 j
    simp only [cg_cs]; grind
