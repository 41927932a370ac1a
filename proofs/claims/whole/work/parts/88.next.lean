/-! from one tree to the next -/
def qIx (m : Nat) (N : rM) (tr : Nat → Nat) (b : Nat) : Nat := eNum (tr b - 1) (qMl m N b)
def qRk (m : Nat) (N : rM) (tr : Nat → Nat) : Nat → Nat
  | 0 => 0
  | k + 1 => qRk m N tr k * qC m N k + qIx m N tr k
theorem qRk_s (m : Nat) (N : rM) (tr : Nat → Nat) (k : Nat) : qRk m N tr (k + 1) = qRk m N tr k * qC m N k + qIx m N tr k := rfl
theorem eNum_gap {p : Nat → Bool} {a c : Nat} (h1 : a < c) (h2 : p a = true) (h3 : ∀ j, a < j → j < c → p j = false) : eNum c p = eNum a p + 1 := by
  induction c with
  | zero => omega
  | succ c ih =>
    rw [eNum_s]
    by_cases hac : a = c
    · subst hac; rw [h2]; rfl
    · rw [ih (by omega) (fun j hj1 hj2 => h3 j hj1 (by omega)), h3 c (by omega) (by omega)]; rfl
theorem eNum_le2 {p : Nat → Bool} {a c : Nat} (h : a ≤ c) : eNum a p ≤ eNum c p := by
  induction c with
  | zero => rw [show a = 0 by omega]; exact Nat.le_refl _
  | succ c ih =>
    by_cases hac : a = c + 1
    · rw [hac]; exact Nat.le_refl _
    · have := ih (by omega)
      rw [eNum_s]; omega
theorem qIx_lt {m b : Nat} {N : rM} {tr : Nat → Nat} (h : qOk m N tr) (hb : b < m) : qIx m N tr b + 1 ≤ qC m N b := by
  unfold qIx
  cases htr : tr b with
  | zero =>
    show eNum 0 _ + 1 ≤ _
    have : 1 ≤ qC m N b := by unfold qC; split <;> omega
    show 0 + 1 ≤ _
    omega
  | succ a =>
    obtain ⟨h1, h2⟩ := (h.2 b hb).2 a htr
    rw [Nat.add_sub_cancel]
    have e1 : eNum (a + 1) (qMl m N b) = eNum a (qMl m N b) + 1 := by rw [eNum_s, h2]; rfl
    have e2 := eNum_le2 (p := qMl m N b) (show a + 1 ≤ m by omega)
    unfold qC
    split <;> omega
theorem qRk_lt {m : Nat} {N : rM} {tr : Nat → Nat} (h : qOk m N tr) (k : Nat) (hk : k ≤ m) : qRk m N tr k + 1 ≤ qPr m N k := by
  induction k with
  | zero => show 0 + 1 ≤ 1; omega
  | succ k ih =>
    have h1 := ih (by omega)
    have h2 := qIx_lt h (show k < m by omega)
    rw [qRk_s, qPr_s]
    have h3 : (qRk m N tr k + 1) * qC m N k ≤ qPr m N k * qC m N k := Nat.mul_le_mul_right _ h1
    rw [Nat.add_mul, Nat.one_mul] at h3
    omega
theorem qF_ok {m b k a : Nat} {N : rM} (hk : k ≤ m) (h : qF m N b k = a + 1) : k ≤ a ∧ a < m ∧ qMl m N b a = true ∧ ∀ j, k ≤ j → j < a → qMl m N b j = false := by
  unfold qF at h
  cases h1 : eFd (qMl m N b) (m - k) k with
  | none => rw [h1] at h; cases h
  | some c =>
    rw [h1] at h
    have : c = a := by
      have : c + 1 = a + 1 := h
      omega
    subst this
    obtain ⟨a1, a2, a3⟩ := eFd_ok _ _ _ _ h1
    exact ⟨a1, by omega, a3, eFd_min h1⟩
theorem qF_no {m b k : Nat} {N : rM} (hk : k ≤ m) (h : qF m N b k = 0) : ∀ j, k ≤ j → j < m → qMl m N b j = false := by
  unfold qF at h
  cases h1 : eFd (qMl m N b) (m - k) k with
  | none => intro j h2 h3; exact eFd_nn h1 j h2 (by omega)
  | some c => rw [h1] at h; cases h
/-- while the next tree is looked for: behind i all are first again -/
def qTc (m : Nat) (N : rM) (tr : Nat → Nat) (i : Nat) : Nat → Nat := fun j => if i < j then qF m N j 0 else tr j
/-- what both leave -/
def qNt (m : Nat) (MR : rM) (tr : Nat → Nat) (M0 : cM) (N0 : rM) (o : Option (Int32 × cM)) (o' : Option (Int32 × rM)) : Prop := ∃ r M' N', o = some (r, M') ∧ o' = some (r, N') ∧ eF [605] M0 M' ∧ M'.2 = M0.2 ∧ eH [1347] N0 N' ∧ (r = 0 ∨ r = 1 ∧ ∃ tr', qOk m MR tr' ∧ qRk m MR tr' m = qRk m MR tr m + 1 ∧ ∀ b, b < m → cg M' 605 0 b = eM (tr' b) ∧ rg N' 1347 0 b = eM (tr' b))
theorem next_aux {m : Nat} {MR N0 : rM} {M0 : cM} {tr : Nat → Nat} (hm : m ≤ 10) (h0 : rg MR 12 0 0 = nI m) (hrd : qRd m MR N0) (ht : qOk m MR tr) (h604 : ∀ b, b < m → cg M0 604 0 b = eSet m (qMl m MR b)) : ∀ i f M N, i < m → i < f → eF [605] M0 M → M.2 = M0.2 → eH [1347] N0 N → (∀ b, b < m → cg M 605 0 b = eM (qTc m MR tr i b) ∧ rg N 1347 0 b = eM (qTc m MR tr i b)) → (∀ j, i < j → j < m → qIx m MR tr j + 1 = qC m MR j) → qNt m MR tr M0 N0 (m5_nextTree_10 f (nI i) M) (m12_hasNextTree_7 f (nI i) N) := by
  intro i
  induction i with
  | zero =>
    intro f M N hi hf i1 i2 i3 i4 i5
    obtain ⟨f, rfl⟩ : ∃ f', f = f' + 1 := ⟨f - 1, by omega⟩
    rw [m5_nextTree_10, m12_hasNextTree_7, if_pos (by decide), if_pos (by decide)]
    exact ⟨0, M, N, rfl, rfl, i1, i2, i3, .inl rfl⟩
  | succ i ih =>
    intro f M N hi hf i1 i2 i3 i4 i5
    obtain ⟨f, rfl⟩ : ∃ f', f = f' + 1 := ⟨f - 1, by omega⟩
    have hi10 : i + 1 < 10 := by omega
    have n10 : ((1 : Int32) = 0) = False := eq_false (by decide)
    have c1 : ¬ nI (i + 1) < 1 := by rw [show (1 : Int32) = nI 1 from rfl, eI_lt (by omega) (by omega)]; omega
    have c2 : ¬ nI (i + 1) ≤ 0 := by rw [eI_pos (by omega)]; omega
    have hm1 : nI (i + 1) + (-1 : Int32) = nI i := by rw [← nI_sub1 i, Int32.sub_eq_add_neg]
    have hqc : qTc m MR tr (i + 1) (i + 1) = tr (i + 1) := by unfold qTc; rw [if_neg (by omega)]
    obtain ⟨v1, v2⟩ := i4 (i + 1) hi
    rw [hqc] at v1 v2
    obtain ⟨t1, t2⟩ := ht.2 (i + 1) hi
    have rdN : ∀ N', eH [1347] N0 N' → qRd m MR N' := fun N' h => ⟨eH_trans hrd.1 (eH_mono h rfl), fun b hb => by rw [h 1346 0 b rfl]; exact hrd.2 b hb⟩
    -- on, with box i + 1 at its first again
    have go : ∀ M' N', eF [605] M M' → M'.2 = M.2 → eH [1347] N N' → (∀ b, b < m → cg M' 605 0 b = (if b = i + 1 then eM (qF m MR (i + 1) 0) else cg M 605 0 b) ∧ rg N' 1347 0 b = (if b = i + 1 then eM (qF m MR (i + 1) 0) else rg N 1347 0 b)) → qIx m MR tr (i + 1) + 1 = qC m MR (i + 1) → qNt m MR tr M0 N0 (m5_nextTree_10 f (nI i) M') (m12_hasNextTree_7 f (nI i) N') := by
      intro M' N' k1 k2 k3 k4 k5
      refine ih f M' N' (by omega) (by omega) (eF_trans i1 k1) (k2.trans i2) (eH_trans i3 k3) (fun b hb => ?_) (fun j hj hjm => ?_)
      · obtain ⟨w1, w2⟩ := k4 b hb
        obtain ⟨u1, u2⟩ := i4 b hb
        rw [w1, w2, u1, u2]
        unfold qTc
        by_cases hbi : b = i + 1
        · rw [if_pos hbi, if_pos (show i < b by omega), hbi]; exact ⟨rfl, rfl⟩
        · rw [if_neg hbi]
          by_cases hl : i + 1 < b
          · rw [if_pos hl, if_pos (show i < b by omega)]; exact ⟨rfl, rfl⟩
          · rw [if_neg hl, if_neg (show ¬ i < b by omega)]; exact ⟨rfl, rfl⟩
      · by_cases hji : j = i + 1
        · rw [hji]; exact k5
        · exact i5 j (by omega) hjm
    rw [m5_nextTree_10, m12_hasNextTree_7, if_neg c1, if_neg c2]
    simp only [show ((10 : Int32) ≤ nI (i + 1)) = False from eq_false (by rw [show (10 : Int32) = nI 10 from rfl, eI_le (by omega) (by omega)]; omega), ezin_nI (show i + 1 < 10 by omega) (show 10 < 2 ^ 31 by decide), ex_nI (show i + 1 < 2 ^ 31 by omega), i1 604 0 (i + 1) rfl, h604 (i + 1) hi, v1, v2, m5_nextTree_81, m12_hasNextTree_81, hm1, zbd_s, zbv_s, zgd_t, Bool.and_true, Bool.true_and, Bool.and_self, if_true, if_false, e_01, eq_self, Bool.false_eq_true]
    cases htr : tr (i + 1) with
    | zero =>
      have hf0 := t1.mp htr
      have hnone := qF_no (k := 0) (by omega) hf0
      have hset : eSet m (qMl m MR (i + 1)) = 0 := (eSet_0 (by omega)).mpr (eNum_z.mpr (fun j hj => hnone j (by omega) hj))
      simp only [hset, eM_0, if_true]
      refine go M N eF_refl rfl eH_refl (fun b hb => ?_) ?_
      · by_cases hbi : b = i + 1
        · rw [if_pos hbi, if_pos hbi, hbi, v1, v2, htr, hf0]; exact ⟨rfl, rfl⟩
        · rw [if_neg hbi, if_neg hbi]; exact ⟨rfl, rfl⟩
      · unfold qIx qC
        rw [htr, if_pos (eNum_z.mpr (fun j hj => hnone j (by omega) hj))]; rfl
    | succ a =>
      obtain ⟨ha, hqa⟩ := t2 a htr
      have hne : ¬ eSet m (qMl m MR (i + 1)) = 0 := by
        intro h
        rw [eSet_0 (by omega), eNum_z] at h
        rw [h a ha] at hqa; cases hqa
      have hm1' : (nI a = -1) = False := by
        rw [← eM_s, eM_m1 (by omega)]; exact eq_false (by omega)
      simp only [hne, eM_s, up_set hm (show a < 10 by omega), hm1', ep1, if_false]
      refine next30_e (P := fun o => qNt m MR tr M0 N0 _ o) (m12_hasNextTree_7 f) hm h0 (rdN N i3) hi (show a + 1 ≤ m by omega) (fun c hc => ?_)
      have e0 : rg N 12 0 0 = nI m := by rw [i3 12 0 0 rfl, hrd.1 12 0 0 rfl, h0]
      unfold m12_hasNextTree_53 m12_hasNextTree_81
      rw [hm1]
      rcases hc with ⟨hc0, hcm⟩ | ⟨hc1, hcm⟩
      · -- no other for this box
        have hno := qF_no (k := a + 1) (by omega) hc0
        have hg : eSet m (fun j => qMl m MR (i + 1) j && decide (a < j)) = 0 := by
          refine (eSet_0 (by omega)).mpr (eNum_z.mpr (fun j hj => ?_))
          by_cases haj : a < j
          · rw [hno j (by omega) hj, Bool.false_and]
          · rw [decide_eq_false haj, Bool.and_false]
        obtain ⟨a0, ha0⟩ := eFd_ex (p := qMl m MR (i + 1)) ⟨a, ha, hqa⟩
        have hqf : eM (qF m MR (i + 1) 0) = nI a0 := by rw [qF_s (a := a0) ha0, eM_s]
        rw [if_pos hg, ntz_set hm ha0, zbd_s, hcm, e0, if_pos (Int32.le_refl _), first_e hm h0 (rdN N i3) hi, zbd_s, ezin_nI hi10 (by decide), Bool.and_true, zgd_t, ex_nI (by omega), hqf]
        refine go _ _ (eF_cs eF_refl rfl) rfl (eH_rs eH_refl rfl) (fun b hb => ?_) ?_
        · rw [cg_cs, rg_rs, hqf]
          by_cases hbi : b = i + 1
          · simp [hbi]
          · simp [hbi]
        · unfold qIx qC
          have := eNum_gap (p := qMl m MR (i + 1)) (a := a) (c := m) ha hqa (fun j h1 h2 => hno j (by omega) h2)
          rw [htr, Nat.add_sub_cancel, this, if_neg (by omega)]
      · -- another one
        obtain ⟨k1, k2, k3, k4⟩ := qF_ok (by omega) hc1
        have hfd : eFd (fun j => qMl m MR (i + 1) j && decide (a < j)) m 0 = some c := by
          refine eFd_mk (by omega) (by omega) (by rw [k3, decide_eq_true (by omega)]; rfl) (fun j h1 h2 => ?_)
          by_cases haj : a < j
          · rw [k4 j (by omega) h2, Bool.false_and]
          · rw [decide_eq_false haj, Bool.and_false]
        have hg : ¬ eSet m (fun j => qMl m MR (i + 1) j && decide (a < j)) = 0 := by
          intro h
          rw [eSet_0 (by omega), eNum_z] at h
          have := h c hcm
          rw [k3, decide_eq_true (show a < c by omega)] at this
          cases this
        have hnm : ¬ nI m ≤ nI c := by rw [eI_le (by omega) (by omega)]; omega
        rw [if_neg hg, ntz_set hm hfd, zbd_s, e0, if_neg hnm, ezin_nI hi10 (by decide), Bool.and_true, zgd_t, ex_nI (by omega)]
        refine ⟨1, _, _, rfl, rfl, eF_cs i1 rfl, i2, eH_rs i3 rfl, .inr ⟨rfl, fun j => if j = i + 1 then c + 1 else qTc m MR tr (i + 1) j, ⟨?_, fun b hb => ?_⟩, ?_, fun b hb => ?_⟩⟩
        · show (if 0 = i + 1 then c + 1 else qTc m MR tr (i + 1) 0) = 0
          rw [if_neg (by omega)]; unfold qTc; rw [if_neg (by omega)]; exact ht.1
        · dsimp only
          by_cases hbi : b = i + 1
          · rw [if_pos hbi, hbi]
            refine ⟨⟨fun h => absurd h (by omega), fun h => ?_⟩, fun a' ha' => ?_⟩
            · rw [← t1, htr] at h; cases h
            · have : a' = c := by omega
              rw [this]; exact ⟨hcm, k3⟩
          · rw [if_neg hbi]
            unfold qTc
            by_cases hl : i + 1 < b
            · rw [if_pos hl]
              refine ⟨Iff.rfl, fun a' ha' => ?_⟩
              obtain ⟨-, z1, z2, -⟩ := qF_ok (by omega) ha'
              exact ⟨z1, z2⟩
            · rw [if_neg hl]; exact ht.2 b hb
        · have low : ∀ k, k ≤ i + 1 → qRk m MR (fun j => if j = i + 1 then c + 1 else qTc m MR tr (i + 1) j) k = qRk m MR tr k := by
            intro k
            induction k with
            | zero => intro _; rfl
            | succ k ihk =>
              intro hk
              have : qIx m MR (fun j => if j = i + 1 then c + 1 else qTc m MR tr (i + 1) j) k = qIx m MR tr k := by
                unfold qIx qTc
                dsimp only
                rw [if_neg (by omega), if_neg (by omega)]
              rw [qRk_s, qRk_s, ihk (by omega), this]
          have high : ∀ d, i + 2 + d ≤ m → qRk m MR (fun j => if j = i + 1 then c + 1 else qTc m MR tr (i + 1) j) (i + 2 + d) = qRk m MR tr (i + 2 + d) + 1 := by
            intro d
            induction d with
            | zero =>
              intro _
              have e1 : qIx m MR (fun j => if j = i + 1 then c + 1 else qTc m MR tr (i + 1) j) (i + 1) = qIx m MR tr (i + 1) + 1 := by
                unfold qIx
                dsimp only
                rw [if_pos rfl, htr, Nat.add_sub_cancel, Nat.add_sub_cancel]
                exact eNum_gap (by omega) hqa (fun j h1 h2 => k4 j (by omega) h2)
              show qRk m MR _ (i + 1 + 1) = qRk m MR tr (i + 1 + 1) + 1
              rw [qRk_s m MR _ (i + 1), qRk_s m MR tr (i + 1), low (i + 1) (Nat.le_refl _), e1]; rfl
            | succ d ihd =>
              intro hd
              have h1 := ihd (by omega)
              have e1 : qIx m MR (fun j => if j = i + 1 then c + 1 else qTc m MR tr (i + 1) j) (i + 2 + d) = 0 := by
                unfold qIx qTc
                dsimp only
                rw [if_neg (by omega), if_pos (by omega)]
                refine eNum_z.mpr (fun j hj => ?_)
                cases hq : qF m MR (i + 2 + d) 0 with
                | zero => rw [hq] at hj; omega
                | succ a' =>
                  rw [hq] at hj
                  obtain ⟨-, -, -, z⟩ := qF_ok (by omega) hq
                  exact z j (by omega) (by omega)
              have e2 := i5 (i + 2 + d) (by omega) (by omega)
              show qRk m MR _ (i + 2 + d + 1) = qRk m MR tr (i + 2 + d + 1) + 1
              rw [qRk_s, qRk_s, h1, e1, Nat.add_mul, Nat.one_mul]
              omega
          have := high (m - (i + 2)) (by omega)
          rw [show i + 2 + (m - (i + 2)) = m by omega] at this
          exact this
        · dsimp only
          rw [cg_cs, rg_rs]
          obtain ⟨u1, u2⟩ := i4 b hb
          by_cases hbi : b = i + 1
          · simp [hbi, eM_s]
          · simp [hbi, u1, u2]
theorem next_cr {m : Nat} {MR N : rM} {M : cM} {tr : Nat → Nat} (hm : m ≤ 10) (hm1 : 0 < m) (h0 : rg MR 12 0 0 = nI m) (h3 : cg M 3 0 4 = nI m) (hrd : qRd m MR N) (ht : qOk m MR tr) (h604 : ∀ b, b < m → cg M 604 0 b = eSet m (qMl m MR b)) (h : ∀ b, b < m → cg M 605 0 b = eM (tr b) ∧ rg N 1347 0 b = eM (tr b)) : qNt m MR tr M N (m5_nextTree M) (m12_hasNextTree N) := by
  obtain ⟨k, rfl⟩ : ∃ k, m = k + 1 := ⟨m - 1, by omega⟩
  unfold m5_nextTree m12_hasNextTree
  rw [h3, hrd.1 12 0 0 rfl, h0, nI_sub1]
  refine next_aux hm h0 hrd ht h604 k zfu M N (by omega) (zfu_gt (by omega)) eF_refl rfl eH_refl (fun b hb => ?_) (fun j h1 h2 => by omega)
  unfold qTc
  rw [if_neg (by omega)]; exact h b hb
