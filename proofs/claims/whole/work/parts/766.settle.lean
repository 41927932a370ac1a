/-- whether what is told alike is so alike, over the first n -/
noncomputable def eStl (vs : Nat → Nat) (ss : Nat → Bool) (n : Nat) : Bool := @decide (∀ k j, k < n → j < n → vs k = vs j → ss k = ss j) (Classical.propDecidable _)
theorem eStl_t {vs : Nat → Nat} {ss : Nat → Bool} {n : Nat} (h : ∀ k j, k < n → j < n → vs k = vs j → ss k = ss j) : eStl vs ss n = true := by
  unfold eStl; exact @decide_eq_true _ (Classical.propDecidable _) h
theorem eStl_f {vs : Nat → Nat} {ss : Nat → Bool} {n k j : Nat} (hk : k < n) (hj : j < n) (h1 : vs k = vs j) (h2 : ss k ≠ ss j) : eStl vs ss n = false := by
  unfold eStl; exact @decide_eq_false _ (Classical.propDecidable _) (fun h => h2 (h k j hk hj h1))
theorem e01 (p q : Bool) : ((if p then (1 : Int32) else 0) = if q then 1 else 0) = (p = q) := by
  cases p <;> cases q <;> simp <;> decide
theorem settles_e {d st so c dd a b n : Nat} {MR0 : rM} {L : List Nat} {vs : Nat → Nat} {ss : Nat → Bool} (h67 : rg MR0 12 0 67 = nI d) (hd : d ≤ 5) (hst : st < 64) (hso : so ≤ 1) (hc : c < 6) (hdd : dd < 6) (hab : a ≤ b) (hb : b < d) (h72 : rg MR0 12 0 72 = nI L.length) (hL : eArR MR0 1373 L) (hlen : L.length ≤ 7776) (hx : ∀ i x, L[i]? = some x → x < 7776 ∧ vs i = eTd MR0 d st (eDg d x) 6 ∧ ss i = eSc d so c dd a b x) : ∃ MR', m12_settles (nI st) (nI so) (nI c) (nI dd) (nI a) (nI b) MR0 = some (if eStl vs ss L.length then 1 else 0, MR') ∧ eH [1374, 1375] MR0 MR' := by
  unfold m12_settles
  refine eloop (σ := rM) (fun f k M => ∃ MR', m12_settles_3 f (nI st) (nI so) (nI c) (nI dd) (nI a) (nI b) (nI k) M = some (if eStl vs ss L.length then 1 else 0, MR') ∧ eH [1374, 1375] MR0 MR') (fun k M => eH [1374, 1375] MR0 M ∧ ∀ j, j < k → rg M 1374 0 j = 0) (m := 16384) (k0 := 0) (by omega) ?_ ?_ (zfu_gt (by omega)) ⟨eH_refl, fun j h => absurd h (by omega)⟩
  · rintro f M ⟨i1, i2⟩
    simp only [m12_settles_3, show ((16384 : Int32) ≤ nI 16384) = True from eq_true (by decide), zbd_s, zbv_s, zgd_t, Bool.and_true, Bool.true_and, Bool.and_self, if_true, if_false, e_01, eq_self, Bool.false_eq_true]
    refine eloop (σ := (Nat → Nat) × (Nat → Bool) × rM) (fun f i s => ∃ MR', m12_settles_28 f (nI st) (nI so) (nI c) (nI dd) (nI a) (nI b) (nI i) s.2.2 = some (if eStl vs ss L.length then 1 else 0, MR') ∧ eH [1374, 1375] MR0 MR') (fun i s => eH [1374, 1375] MR0 s.2.2 ∧ (∀ j, j < 16384 → rg s.2.2 1374 0 j = nI (s.1 j) ∧ s.1 j < 2 ^ 31 ∧ (s.1 j ≠ 0 → rg s.2.2 1375 0 j = if s.2.1 j then 1 else 0)) ∧ eHt s.1 s.2.1 vs ss i) (m := L.length) (k0 := 0) (s := (fun _ => 0, fun _ => false, M)) (Nat.zero_le _) ?_ ?_ (zfu_gt (by omega)) ⟨i1, fun j hj => ⟨i2 j hj, show (0 : Nat) < 2 ^ 31 by decide, fun h => absurd rfl h⟩, fun j _ => .inl rfl, fun k hk => absurd hk (by omega), ?_, fun k j hk => absurd hk (by omega)⟩
    · rintro f ⟨K, S, N⟩ ⟨j1, j2, j3⟩
      dsimp only at j1 j2 j3 ⊢
      have e72 : rg N 12 0 72 = nI L.length := by rw [j1 12 0 72 rfl, h72]
      simp only [m12_settles_28, e72, eI_le (show L.length < 2 ^ 31 by omega) (show L.length < 2 ^ 31 by omega), Nat.le_refl, zbd_s, zbv_s, zgd_t, Bool.and_true, Bool.true_and, Bool.and_self, if_true, if_false, e_01, eq_self, Bool.false_eq_true]
      exact ⟨N, by rw [eStl_t j3.2.2.2]; rfl, j1⟩
    · rintro f i ⟨K, S, N⟩ _ hi ⟨j1, j2, j3⟩ ih
      dsimp only at j1 j2 j3 ⊢
      obtain ⟨x, hxi⟩ : ∃ x, L[i]? = some x := ⟨_, List.getElem?_eq_getElem hi⟩
      obtain ⟨x1, x2, x3⟩ := hx i x hxi
      have e72 : rg N 12 0 72 = nI L.length := by rw [j1 12 0 72 rfl, h72]
      have e67 : rg N 12 0 67 = nI d := by rw [j1 12 0 67 rfl, h67]
      have e73 : rg N 1373 0 i = nI x := by rw [j1 1373 0 i rfl]; exact hL i x hxi
      have hTd : ∀ e, eTd N d st (eDg d x) e = eTd MR0 d st (eDg d x) e := by
        intro e
        have hTn : ∀ e t, eTn N e t = eTn MR0 e t := by intro e t; unfold eTn; rw [j1 1370 0 _ rfl]
        have hHe : ∀ e s, eHe N e s = eHe MR0 e s := by intro e s; unfold eHe; rw [j1 1369 0 e rfl]
        have hTi : ∀ e t v, eTi N (eDg d x) e t v = eTi MR0 (eDg d x) e t v := by
          intro e t v
          induction t with
          | zero => rfl
          | succ t iht => rw [eTi_s, eTi_s, hTn, hHe, iht]
        induction e with
        | zero => rfl
        | succ e ihe => unfold eTd; rw [hTi, ihe]
      have hv := eTd_lt MR0 d st (eDg d x) hd 6
      rw [← x2] at hv
      have hv31 : vs i < 2 ^ 31 := by have := hv.2; omega
      have hvk : ∀ k, k ≤ i → vs k ≠ 0 := by
        intro k hk
        obtain ⟨y, hy⟩ : ∃ y, L[k]? = some y := ⟨_, List.getElem?_eq_getElem (show k < L.length by omega)⟩
        rw [(hx k y hy).2.1]
        have := (eTd_lt MR0 d st (eDg d y) hd 6).1
        omega
      obtain ⟨q, q1, q2, q3⟩ := ht_stop (v := vs i) (show i < 16384 by omega) j3.2.2.1 (hs_lt (vs i))
      have hprobe : ∃ MR', m12_settles_78 (m12_settles_28 f) (nI st) (nI so) (nI c) (nI dd) (nI a) (nI b) (nI i) (nI (vs i)) (if ss i then 1 else 0) N = some (if eStl vs ss L.length then 1 else 0, MR') ∧ eH [1374, 1375] MR0 MR' := by
        unfold m12_settles_78
        rw [hs_e, show znz 16381 = true from rfl, Bool.and_true, zgd_t]
        have hh := hs_lt (vs i)
        refine eloop0 (fun f' r => ∃ MR', m12_settles_92 (m12_settles_28 f) f' (nI st) (nI so) (nI c) (nI dd) (nI a) (nI b) (nI i) (nI (vs i)) (if ss i then 1 else 0) (nI ((eHs (vs i) + r) % 16384)) N = some (if eStl vs ss L.length then 1 else 0, MR') ∧ eH [1374, 1375] MR0 MR') (m := q) (k0 := 0) (Nat.zero_le _) ?_ ?_ (zfu_gt (by omega)) |> fun h => by rw [Nat.add_zero, Nat.mod_eq_of_lt hh] at h; exact h
        · intro f'
          have hpl : (eHs (vs i) + q) % 16384 < 16384 := Nat.mod_lt _ (by decide)
          obtain ⟨p, hp⟩ : ∃ p, p = (eHs (vs i) + q) % 16384 := ⟨_, rfl⟩
          rw [← hp] at hpl q2 ⊢
          obtain ⟨k1, k2, k3⟩ := j2 p hpl
          have hz : zin (nI p) 16384 = true := ezin_nI hpl (by decide)
          have hxp : nx (nI p) = p := ex_nI (by omega)
          have hput : (K p = 0 ∨ K p = vs i ∧ S p = ss i) → ∃ MR', m12_settles_161 (m12_settles_28 f) (nI st) (nI so) (nI c) (nI dd) (nI a) (nI b) (nI i) (nI (vs i)) (if ss i then 1 else 0) (nI p) N = some (if eStl vs ss L.length then 1 else 0, MR') ∧ eH [1374, 1375] MR0 MR' := by
            intro hst2
            unfold m12_settles_161
            simp only [hz, hxp, ep1, Bool.and_true, zgd_t]
            refine ih (fun j => if j = p then vs i else K j, fun j => if j = p then ss i else S j, rs (rs N 1374 0 p (nI (vs i))) 1375 0 p (if ss i then 1 else 0)) ⟨eH_rs (eH_rs j1 rfl) rfl, fun j hj => ?_, ht_put hvk j3 q1 (by rw [← hp]; exact hst2) q3 (fun j _ => by rw [← hp]) (fun j _ => by rw [← hp])⟩
            dsimp only
            by_cases hjp : j = p
            · subst hjp
              simp [rg_rs]; exact hv31
            · obtain ⟨l1, l2, l3⟩ := j2 j hj
              simp only [hjp, if_false]
              refine ⟨by rw [rg_rs, if_neg (by omega), rg_rs, if_neg (by omega)]; exact l1, l2, fun h => by rw [rg_rs, if_neg (by omega), rg_rs, if_neg (by omega)]; exact l3 h⟩
          simp only [m12_settles_92, m12_settles_135, hz, hxp, k1, eI_0 (show K p < 2 ^ 31 by omega), eI_inj (show K p < 2 ^ 31 by omega) (show vs i < 2 ^ 31 by omega), zbd_s, zbv_s, zgd_t, Bool.and_true, Bool.true_and, Bool.and_self, if_true, if_false, e_01, eq_self, Bool.false_eq_true]
          have hend : K p = vs i → ∃ MR', (if rg N 1375 0 p = (if ss i then 1 else 0) then m12_settles_161 (m12_settles_28 f) (nI st) (nI so) (nI c) (nI dd) (nI a) (nI b) (nI i) (nI (vs i)) (if ss i then 1 else 0) (nI p) N else some (0, N)) = some (if eStl vs ss L.length then 1 else 0, MR') ∧ eH [1374, 1375] MR0 MR' := by
            intro hkv
            have hk0 : K p ≠ 0 := by rw [hkv]; exact hvk i (Nat.le_refl _)
            simp only [k3 hk0, e01]
            by_cases hsv : S p = ss i
            · simp only [hsv, if_true]; exact hput (.inr ⟨hkv, hsv⟩)
            · simp only [hsv, if_false]
              rcases j3.1 p hpl with h0 | ⟨k, l1, l2, l3⟩
              · exact absurd h0 hk0
              · have := eStl_f (vs := vs) (ss := ss) (n := L.length) (k := k) (j := i) (by omega) hi (by rw [l2, hkv]) (by rw [l3]; exact hsv)
                exact ⟨N, by rw [this]; rfl, j1⟩
          by_cases hk0 : K p = 0
          · have hkv : ¬ K p = vs i := by rw [hk0]; exact fun h => hvk i (Nat.le_refl _) h.symm
            rw [if_pos hk0, if_neg hkv]
            exact hput (.inl hk0)
          · have hkv : K p = vs i := by rcases q2 with h | h; exact absurd h hk0; exact h
            rw [if_neg hk0, if_pos hkv, if_pos hkv]
            exact hend hkv
        · intro f' r _ hr ih'
          obtain ⟨k1, k2, k3⟩ := j2 ((eHs (vs i) + r) % 16384) (Nat.mod_lt _ (by decide))
          obtain ⟨n1, n2⟩ := q3 r hr
          have hpl : (eHs (vs i) + r) % 16384 < 16384 := Nat.mod_lt _ (by decide)
          have hz : zin (nI ((eHs (vs i) + r) % 16384)) 16384 = true := ezin_nI hpl (by decide)
          have hxp : nx (nI ((eHs (vs i) + r) % 16384)) = (eHs (vs i) + r) % 16384 := ex_nI (by omega)
          have hw : (nI ((eHs (vs i) + r) % 16384) = 16383) = ((eHs (vs i) + r) % 16384 = 16383) := by rw [show (16383 : Int32) = nI 16383 from rfl, eI_inj (by omega) (by omega)]
          simp only [m12_settles_92, m12_settles_130, hz, hxp, k1, eI_0 (show K ((eHs (vs i) + r) % 16384) < 2 ^ 31 by omega), eI_inj (show K ((eHs (vs i) + r) % 16384) < 2 ^ 31 by omega) (show vs i < 2 ^ 31 by omega), n1, n2, hw, ep1, zbd_s, zbv_s, zgd_t, Bool.and_true, Bool.true_and, Bool.and_self, if_true, if_false, e_01, eq_self, Bool.false_eq_true]
          by_cases hwr : (eHs (vs i) + r) % 16384 = 16383
          · rw [show (eHs (vs i) + (r + 1)) % 16384 = 0 by omega] at ih'
            simp only [hwr, if_true]
            exact ih'
          · rw [show (eHs (vs i) + (r + 1)) % 16384 = (eHs (vs i) + r) % 16384 + 1 by omega] at ih'
            simp only [hwr, if_false]
            exact ih'
      have htold := told_e e67 hd (show x < 2 ^ 31 by omega) hst
      rw [hTd, ← x2] at htold
      simp only [m12_settles_28, e72, eI_le (show L.length < 2 ^ 31 by omega) (show i < 2 ^ 31 by omega), show (L.length ≤ i) = False from eq_false (by omega), ezin_nI (show i < 7776 by omega) (show 7776 < 2 ^ 31 by decide), ex_nI (show i < 2 ^ 31 by omega), e73, htold, so_e e67 hd hso hc hdd hab hb (show x < 2 ^ 31 by omega), ← x3, ei_1, zbd_s, zbv_s, zgd_t, Bool.and_true, Bool.true_and, Bool.and_self, if_true, if_false, e_01, eq_self, Bool.false_eq_true]
      cases hss : ss i with
      | true => rw [hss] at hprobe; simp only [reduceCtorEq, if_false, if_true] at hprobe ⊢; exact hprobe
      | false => rw [hss] at hprobe; simp only [Bool.false_eq_true, if_false, if_true] at hprobe ⊢; exact hprobe
    · have : eNum 16384 (fun j => !(decide ((0 : Nat) = 0))) = 0 := eNum_0.mpr (fun j _ => rfl)
      dsimp only
      rw [this]; exact Nat.le_refl _
  · rintro f k M _ hk ⟨i1, i2⟩ ih
    simp only [m12_settles_3, show ((16384 : Int32) ≤ nI k) = False from eq_false (by rw [show (16384 : Int32) = nI 16384 from rfl, eI_le (by omega) (by omega)]; omega), ezin_nI (show k < 16384 by omega) (show 16384 < 2 ^ 31 by decide), ex_nI (show k < 2 ^ 31 by omega), ep1, zbd_s, zbv_s, zgd_t, Bool.and_true, Bool.true_and, Bool.and_self, if_true, if_false, e_01, eq_self, Bool.false_eq_true]
    refine ih _ ⟨eH_rs i1 rfl, fun j hj => ?_⟩
    by_cases hjk : j = k
    · subst hjk; simp [rg_rs]
    · rw [rg_rs, if_neg (by omega)]; exact i2 j (by omega)
