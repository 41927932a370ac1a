/-! how far all are from home -/
/-- the levels behind one more pass: 0 none, d + 1 for d steps -/
def qNx (m : Nat) (N : rM) (d : Nat) (L : Nat → Nat) (b : Nat) : Nat := if L b = 0 ∧ eLiv N b = true ∧ ¬ eNum m (fun a => decide (L a = d + 1) && (eLiv N a && eMate N b a)) = 0 then d + 2 else L b
def qHo (m : Nat) (N : rM) : Nat → Nat → Nat
  | 0 => fun b => if b = 0 ∧ eLiv N 0 = true then 1 else 0
  | d + 1 => qNx m N d (qHo m N d)
theorem qHo_0 (m : Nat) (N : rM) (b : Nat) : qHo m N 0 b = if b = 0 ∧ eLiv N 0 = true then 1 else 0 := rfl
theorem qHo_s (m : Nat) (N : rM) (d : Nat) : qHo m N (d + 1) = qNx m N d (qHo m N d) := rfl
theorem qHo_le (m : Nat) (N : rM) (d b : Nat) : qHo m N d b ≤ d + 1 := by
  induction d with
  | zero =>
    show (if _ then 1 else 0) ≤ 1
    split <;> omega
  | succ d ih =>
    rw [qHo_s]; unfold qNx
    split <;> omega
theorem qHo_keep {m : Nat} {N : rM} {d b : Nat} (h : qHo m N d b ≠ 0) : qHo m N (d + 1) b = qHo m N d b := by
  rw [qHo_s]; unfold qNx
  rw [if_neg (fun h' => h h'.1)]
theorem qHo_keep' {m : Nat} {N : rM} {d d' b : Nat} (hd : d ≤ d') (h : qHo m N d b ≠ 0) : qHo m N d' b = qHo m N d b := by
  induction d' with
  | zero => rw [show d = 0 by omega]
  | succ d' ih =>
    by_cases he : d = d' + 1
    · rw [he]
    · have := ih (by omega)
      rw [qHo_keep (by rw [this]; exact h), this]
theorem eNum_up {n : Nat} {p q : Nat → Bool} (h : ∀ j, j < n → p j = true → q j = true) {i : Nat} (hi : i < n) (h1 : q i = true) (h2 : p i = false) : eNum n p + 1 ≤ eNum n q := by
  induction n with
  | zero => omega
  | succ n ih =>
    rw [eNum_s, eNum_s]
    by_cases hin : i = n
    · subst hin
      rw [h1, h2]
      have := eNum_mono (n := i) (p := p) (q := q) (fun j hj => h j (by omega))
      simp; omega
    · have := ih (fun j hj => h j (by omega)) (by omega)
      have := h n (by omega)
      cases hp : p n
      · simp; omega
      · rw [this hp]; simp; omega
/-- a level is there only if there are boxes enough -/
theorem qHo_cnt {m : Nat} {N : rM} (d : Nat) : (∃ a, a < m ∧ qHo m N d a = d + 1) → d + 1 ≤ eNum m (fun b => !decide (qHo m N d b = 0)) := by
  induction d with
  | zero =>
    rintro ⟨a, ha, h⟩
    have := eNum_up (n := m) (p := fun _ => false) (q := fun b => !decide (qHo m N 0 b = 0)) (fun j _ hj => by cases hj) (i := a) ha (by simp [h]) rfl
    omega
  | succ d ih =>
    rintro ⟨a, ha, h⟩
    have hn : qHo m N d a = 0 := by
      rcases Nat.eq_zero_or_pos (qHo m N d a) with h0 | h0
      · exact h0
      · rw [qHo_keep (by omega)] at h
        have := qHo_le m N d a
        omega
    rw [qHo_s] at h
    unfold qNx at h
    have hcond : qHo m N d a = 0 ∧ eLiv N a = true ∧ ¬ eNum m (fun x => decide (qHo m N d x = d + 1) && (eLiv N x && eMate N a x)) = 0 := by
      by_cases hh : qHo m N d a = 0 ∧ eLiv N a = true ∧ ¬ eNum m (fun x => decide (qHo m N d x = d + 1) && (eLiv N x && eMate N a x)) = 0
      · exact hh
      · rw [if_neg hh] at h; omega
    have hex : ∃ x, x < m ∧ qHo m N d x = d + 1 := by
      have := hcond.2.2
      rw [eNum_z, Classical.not_forall] at this
      obtain ⟨x, hx⟩ := this
      rw [Classical.not_imp] at hx
      refine ⟨x, hx.1, ?_⟩
      have h3 := hx.2
      simp only [Bool.not_eq_false, Bool.and_eq_true, decide_eq_true_eq] at h3
      exact h3.1
    have h1 := ih hex
    have h2 := eNum_up (n := m) (p := fun b => !decide (qHo m N d b = 0)) (q := fun b => !decide (qHo m N (d + 1) b = 0)) (fun j _ hj => by
      simp only [Bool.not_eq_true', decide_eq_false_iff_not] at hj ⊢
      rw [qHo_keep hj]; exact hj) (i := a) ha (by
      simp only [Bool.not_eq_true', decide_eq_false_iff_not]
      rw [qHo_s]; unfold qNx; rw [if_pos hcond]; omega) (by simp [hn])
    omega
theorem qHo_top {m : Nat} {N : rM} {d : Nat} (hd : m ≤ d) : qHo m N d = qHo m N m := by
  have key : ∀ k, qHo m N (m + k) = qHo m N m := by
    intro k
    induction k with
    | zero => rfl
    | succ k ih =>
      show qHo m N (m + k + 1) = _
      rw [qHo_s, ih]
      funext b
      unfold qNx
      rw [if_neg]
      rintro ⟨-, -, h3⟩
      rw [eNum_z, Classical.not_forall] at h3
      obtain ⟨x, hx⟩ := h3
      rw [Classical.not_imp] at hx
      have h3 := hx.2
      simp only [Bool.not_eq_false, Bool.and_eq_true, decide_eq_true_eq] at h3
      have h4 := qHo_le m N m x
      have hk : k = 0 := by omega
      subst hk
      have h5 := qHo_cnt (m := m) (N := N) m ⟨x, hx.1, h3.1⟩
      have := eNum_le m (fun b => !decide (qHo m N m b = 0))
      omega
  rw [show d = m + (d - m) by omega]
  exact key _
theorem eM_inj {a b : Nat} (ha : a < 2 ^ 31) (hb : b < 2 ^ 31) : (eM a = eM b) = (a = b) := by
  refine propext ⟨fun h => ?_, fun h => by rw [h]⟩
  cases a with
  | zero =>
    cases b with
    | zero => rfl
    | succ b =>
      exfalso
      have h1 := (eM_neg (b + 1) hb)
      rw [← h, eM_0] at h1
      have h2 : b + 1 = 0 := h1.mp (by decide)
      omega
  | succ a =>
    cases b with
    | zero =>
      exfalso
      have h1 := (eM_neg (a + 1) ha)
      rw [h, eM_0] at h1
      have h2 : a + 1 = 0 := h1.mp (by decide)
      omega
    | succ b =>
      rw [eM_s, eM_s, eI_inj (by omega) (by omega)] at h
      omega
theorem eM_nI {a d : Nat} (ha : a < 2 ^ 31) (hd : d + 1 < 2 ^ 31) : (eM a = nI d) = (a = d + 1) := by
  rw [← eM_s, eM_inj ha hd]
theorem eM_m1 {a : Nat} (ha : a < 2 ^ 31) : (eM a = -1) = (a = 0) := by
  rw [← eM_0, eM_inj ha (by decide)]
theorem eM_pos {a : Nat} (ha : a < 2 ^ 31) : (eM a ≤ 0) = (a ≤ 1) := by
  cases a with
  | zero => rw [eM_0]; exact propext ⟨fun _ => by omega, fun _ => by decide⟩
  | succ a => rw [eM_s, eI_pos (by omega)]; refine propext ?_; omega
/-- the reference's levels -/
theorem home60_e {m d b : Nat} {L : Nat → Nat} {N0 N : rM} {P : Option rM → Prop} (k42 : Int32 → rM → Option rM) (k50 : Int32 → Int32 → rM → Option rM) (hm : m ≤ 10) (hb : b < m) (hd : d < 10) (h0 : rg N0 12 0 0 = nI m) (hL : ∀ j, L j ≤ d + 1) (i1 : eH [1346] N0 N) (i2 : rg N 1346 0 b = eM (L b)) (i3 : ∀ a, a < m → (rg N 1346 0 a = nI d ↔ L a = d + 1)) (hk : ∀ N', eH [1346] N0 N' → rg N' 1346 0 b = eM (qNx m N0 d L b) → (∀ a, a ≠ b → rg N' 1346 0 a = rg N 1346 0 a) → P (k50 (nI d) (nI (b + 1)) N')) : P (m12_findHome_60 k42 k50 zfu (nI d) (nI b) 0 N) := by
  have n10 : ((1 : Int32) = 0) = False := eq_false (by decide)
  have hb10 : b < 10 := by omega
  have hLb := hL b
  obtain ⟨p, hp⟩ : ∃ p : Nat → Bool, p = fun a => decide (L a = d + 1) && (eLiv N0 a && eMate N0 b a) := ⟨_, rfl⟩
  by_cases hz : L b = 0 ∧ eLiv N0 b = true
  · -- looking for a box one step nearer
    have hpw : ¬ rg N0 1302 0 b ≤ 0 := by
      have := hz.2; unfold eLiv at this
      simpa using this
    have hmate : ∀ a, a < 10 → ∀ M, eH [1346] N0 M → m12_areMates (nI a) (nI b) M = some (if eMate N0 b a then 1 else 0, M) := by
      intro a ha M hM
      have := mates_e hb10 ha M
      have e : eMate M b a = eMate N0 b a := by unfold eMate; rw [hM 1307 0 a rfl, hM 1307 0 b rfl]
      rw [e] at this; exact this
    refine eloop (σ := rM) (fun f k M => P (m12_findHome_60 k42 k50 f (nI d) (nI b) (nI k) M)) (fun k M => eH [1346] N0 M ∧ (∀ a, a ≠ b → rg M 1346 0 a = rg N 1346 0 a) ∧ ((eNum k p = 0 ∧ rg M 1346 0 b = -1) ∨ (¬ eNum k p = 0 ∧ rg M 1346 0 b = nI (d + 1)))) (m := m) (k0 := 0) (by omega) ?_ ?_ (zfu_gt (by omega)) ⟨i1, fun _ _ => rfl, .inl ⟨rfl, by rw [i2, hz.1, eM_0]⟩⟩
    · rintro f M ⟨j1, j2, j3⟩
      rw [m12_findHome_60, j1 12 0 0 rfl, h0, if_pos (by rw [eI_le (by omega) (by omega)]; omega)]
      unfold m12_findHome_139
      rw [ep1]
      refine hk M j1 ?_ j2
      unfold qNx
      rw [← hp]
      rcases j3 with ⟨c1, c2⟩ | ⟨c1, c2⟩
      · rw [if_neg (fun h => h.2.2 c1), hz.1, eM_0, c2]
      · rw [if_pos ⟨hz.1, hz.2, c1⟩, c2, eM_s]
    · rintro f k M hk0 hkm ⟨j1, j2, j3⟩ ih
      have hk10 : k < 10 := by omega
      rw [m12_findHome_60, j1 12 0 0 rfl, h0, if_neg (by rw [eI_le (by omega) (by omega)]; omega)]
      rcases j3 with ⟨c1, c2⟩ | ⟨c1, c2⟩
      · have hdk : rg M 1346 0 k = nI d ↔ L k = d + 1 := by
          by_cases hkb : k = b
          · rw [hkb, c2]
            constructor
            · intro h
              have := (eM_neg 0 (by decide)).mpr rfl
              rw [eM_0, h, lt0_n (by omega)] at this
              exact absurd this (by simp)
            · intro h; omega
          · rw [j2 k hkb]; exact i3 k hkm
        have nohit : p k = false → P (m12_findHome_60 k42 k50 f (nI d) (nI b) (nI (k + 1)) (rs M 1346 0 b (-1))) := by
          intro hpk
          refine ih _ ⟨eH_rs j1 rfl, fun a ha => by rw [rg_rs, if_neg (fun h => ha h.2.2)]; exact j2 a ha, .inl ⟨?_, by rw [rg_rs, if_pos ⟨rfl, rfl, rfl⟩]⟩⟩
          rw [eNum_s, c1, hpk]; rfl
        simp only [ezin_nI (show b < 10 by omega) (show 10 < 2 ^ 31 by decide), ex_nI (show b < 2 ^ 31 by omega), ezin_nI (show k < 10 by omega) (show 10 < 2 ^ 31 by decide), ex_nI (show k < 2 ^ 31 by omega), c2, j1 1302 0 b rfl, hpw, j1 1302 0 k rfl, hmate k hk10 M j1, m12_findHome_126, m12_findHome_132, ep1, zbd_s, zbv_s, zgd_t, Bool.and_true, Bool.true_and, Bool.and_self, if_true, if_false, e_01, eq_self, Bool.false_eq_true]
        by_cases h1 : rg M 1346 0 k = nI d
        · have h1' := hdk.mp h1
          simp only [h1, if_true]
          by_cases h2 : rg N0 1302 0 k ≤ 0
          · simp only [h2, if_true]
            exact nohit (by rw [hp]; simp [eLiv, h2])
          · simp only [h2, if_false]
            cases h3 : eMate N0 b k
            · simp only [zbd_s, zbv_s, zgd_t, Bool.and_true, Bool.true_and, Bool.and_self, if_true, if_false, e_01, eq_self, Bool.false_eq_true]
              exact nohit (by rw [hp]; simp [h3])
            · simp only [n10, zbd_s, zbv_s, zgd_t, Bool.and_true, Bool.true_and, Bool.and_self, if_true, if_false, e_01, eq_self, Bool.false_eq_true]
              refine ih _ ⟨eH_rs j1 rfl, fun a ha => by rw [rg_rs, if_neg (fun h => ha h.2.2)]; exact j2 a ha, .inr ⟨?_, by rw [rg_rs, if_pos ⟨rfl, rfl, rfl⟩]⟩⟩
              have : p k = true := by rw [hp]; simp [h1', h3, eLiv, h2]
              rw [eNum_s, this]; simp
        · have h1' : ¬ L k = d + 1 := fun h => h1 (hdk.mpr h)
          simp only [h1, if_false]
          exact nohit (by rw [hp]; simp [h1'])
      · have hne : (nI (d + 1) = -1) = False := by
          rw [← eM_s, eM_m1 (by omega)]; exact eq_false (by omega)
        simp only [ezin_nI (show b < 10 by omega) (show 10 < 2 ^ 31 by decide), ex_nI (show b < 2 ^ 31 by omega), c2, hne, m12_findHome_139, ep1, zbd_s, zbv_s, zgd_t, Bool.and_true, Bool.true_and, Bool.and_self, if_true, if_false, e_01, eq_self, Bool.false_eq_true]
        refine hk M j1 ?_ j2
        unfold qNx
        rw [← hp]
        have : ¬ eNum m p = 0 := by
          rw [eNum_z]
          intro h
          exact c1 (eNum_z.mpr (fun j hj => h j (by omega)))
        rw [if_pos ⟨hz.1, hz.2, this⟩, c2, eM_s]
  · have hq : qNx m N0 d L b = L b := by
      unfold qNx; rw [if_neg (fun h => hz ⟨h.1, h.2.1⟩)]
    rw [zfu_eq, m12_findHome_60, i1 12 0 0 rfl, h0, if_neg (by rw [show (0 : Int32) = nI 0 from rfl, eI_le (by omega) (by omega)]; omega)]
    simp only [ezin_nI (show b < 10 by omega) (show 10 < 2 ^ 31 by decide), ex_nI (show b < 2 ^ 31 by omega), i2, eM_m1 (show L b < 2 ^ 31 by omega), i1 1302 0 b rfl, m12_findHome_139, ep1, zbd_s, zbv_s, zgd_t, Bool.and_true, Bool.true_and, Bool.and_self, if_true, if_false, e_01, eq_self, Bool.false_eq_true]
    have fin := hk N i1 (by rw [hq, i2]) (fun _ _ => rfl)
    by_cases h1 : L b = 0
    · have h2 : rg N0 1302 0 b ≤ 0 := by
        by_cases h2 : rg N0 1302 0 b ≤ 0
        · exact h2
        · exact absurd ⟨h1, by unfold eLiv; simp [h2]⟩ hz
      simp only [h1, h2, if_true]
      exact fin
    · simp only [h1, if_false]
      exact fin
theorem home_e2 {m : Nat} {N : rM} (hm : m ≤ 10) (h0 : rg N 12 0 0 = nI m) : ∃ N', m12_findHome N = some N' ∧ eH [1346] N N' ∧ ∀ b, b < m → rg N' 1346 0 b = eM (qHo m N m b) := by
  have pass : ∀ M, eH [1346] N M → (∀ b, b < m → rg M 1346 0 b = eM (qHo m N 0 b)) → ∃ N', m12_findHome_42 zfu 0 M = some N' ∧ eH [1346] N N' ∧ ∀ b, b < m → rg N' 1346 0 b = eM (qHo m N m b) := by
    intro M i1 i2
    refine eloop (σ := rM) (fun f d M => ∃ N', m12_findHome_42 f (nI d) M = some N' ∧ eH [1346] N N' ∧ ∀ b, b < m → rg N' 1346 0 b = eM (qHo m N m b)) (fun d M => eH [1346] N M ∧ ∀ b, b < m → rg M 1346 0 b = eM (qHo m N d b)) (m := 10) (k0 := 0) (by omega) ?_ ?_ (zfu_gt (by omega)) ⟨i1, i2⟩
    · rintro f M ⟨i1, i2⟩
      refine ⟨M, by rw [m12_findHome_42, if_pos (show (10 : Int32) ≤ nI 10 from by decide)], i1, fun b hb => ?_⟩
      rw [i2 b hb, qHo_top hm]
    · rintro f d M hd0 hd ⟨i1, i2⟩ ih
      rw [m12_findHome_42]
      simp only [show ((10 : Int32) ≤ nI d) = False from eq_false (by rw [show (10 : Int32) = nI 10 from rfl, eI_le (by omega) (by omega)]; omega), if_false]
      refine eloop (σ := rM) (fun f' b M => ∃ N', m12_findHome_50 (m12_findHome_42 f) f' (nI d) (nI b) M = some N' ∧ eH [1346] N N' ∧ ∀ b, b < m → rg N' 1346 0 b = eM (qHo m N m b)) (fun b M => eH [1346] N M ∧ ∀ j, j < m → rg M 1346 0 j = if j < b then eM (qHo m N (d + 1) j) else eM (qHo m N d j)) (m := m) (k0 := 0) (by omega) ?_ ?_ (zfu_gt (by omega)) ⟨i1, fun j hj => by rw [if_neg (by omega)]; exact i2 j hj⟩
      · rintro f' M ⟨j1, j2⟩
        rw [m12_findHome_50, j1 12 0 0 rfl, h0, if_pos (by rw [eI_le (by omega) (by omega)]; omega), ep1]
        exact ih M ⟨j1, fun b hb => by rw [j2 b hb, if_pos hb]⟩
      · rintro f' b M hb0 hb ⟨j1, j2⟩ ih2
        rw [m12_findHome_50, j1 12 0 0 rfl, h0, if_neg (by rw [eI_le (by omega) (by omega)]; omega)]
        refine home60_e (P := fun o => ∃ N', o = some N' ∧ eH [1346] N N' ∧ ∀ b, b < m → rg N' 1346 0 b = eM (qHo m N m b)) (L := qHo m N d) (m12_findHome_42 f) (m12_findHome_50 (m12_findHome_42 f) f') hm hb hd h0 (qHo_le m N d) j1 (by rw [j2 b hb, if_neg (by omega)]) (fun a ha => ?_) (fun N' k1 k2 k3 => ih2 N' ⟨k1, fun j hj => ?_⟩)
        · have h1 := qHo_le m N d a
          have h2 := qHo_le m N (d + 1) a
          rw [j2 a ha]
          by_cases hab : a < b
          · rw [if_pos hab, eM_nI (by omega) (by omega)]
            constructor
            · intro h
              by_cases h3 : qHo m N d a = 0
              · exfalso
                rw [qHo_s] at h
                unfold qNx at h
                split at h <;> omega
              · rw [qHo_keep h3] at h; exact h
            · intro h
              rw [qHo_keep (by omega)]; exact h
          · rw [if_neg hab, eM_nI (by omega) (by omega)]
        · by_cases hjb : j = b
          · rw [hjb, k2, if_pos (by omega), qHo_s]
          · rw [k3 j hjb, j2 j hj]
            by_cases hl : j < b
            · rw [if_pos hl, if_pos (by omega)]
            · rw [if_neg hl, if_neg (by omega)]
  unfold m12_findHome
  refine eloop (σ := rM) (fun f b M => ∃ N', m12_findHome_2 f (nI b) M = some N' ∧ eH [1346] N N' ∧ ∀ b, b < m → rg N' 1346 0 b = eM (qHo m N m b)) (fun b M => eH [1346] N M ∧ ∀ j, j < b → rg M 1346 0 j = eM (qHo m N 0 j)) (m := m) (k0 := 0) (by omega) ?_ ?_ (zfu_gt (by omega)) ⟨eH_refl, fun j hj => absurd hj (by omega)⟩
  · rintro f M ⟨i1, i2⟩
    rw [m12_findHome_2, i1 12 0 0 rfl, h0, if_pos (by rw [eI_le (by omega) (by omega)]; omega)]
    exact pass M i1 i2
  · rintro f b M hb0 hb ⟨i1, i2⟩ ih
    have step : ∀ v, v = eM (qHo m N 0 b) → ∃ N', m12_findHome_2 f (nI (b + 1)) (rs M 1346 0 b v) = some N' ∧ eH [1346] N N' ∧ ∀ b, b < m → rg N' 1346 0 b = eM (qHo m N m b) := by
      intro v hv
      refine ih _ ⟨eH_rs i1 rfl, fun j hj => ?_⟩
      rw [rg_rs]
      by_cases hjb : j = b
      · rw [if_pos ⟨rfl, rfl, hjb⟩, hjb, hv]
      · rw [if_neg (fun h => hjb h.2.2)]; exact i2 j (by omega)
    rw [m12_findHome_2]
    simp only [i1 12 0 0 rfl, h0, eI_le (show m < 2 ^ 31 by omega) (show b < 2 ^ 31 by omega), show (m ≤ b) = False from eq_false (by omega), eI_0 (show b < 2 ^ 31 by omega), show zin 0 10 = true from rfl, nx_0, i1 1302 0 0 rfl, m12_findHome_33, ezin_nI (show b < 10 by omega) (show 10 < 2 ^ 31 by decide), ex_nI (show b < 2 ^ 31 by omega), ep1, zbd_s, zbv_s, zgd_t, Bool.and_true, Bool.true_and, Bool.and_self, if_true, if_false, e_01, eq_self, Bool.false_eq_true]
    by_cases hb00 : b = 0
    · simp only [hb00, if_true]
      simp only [hb00] at step
      by_cases h1 : rg N 1302 0 0 ≤ 0
      · simp only [h1, if_true]
        refine step (-1) ?_
        rw [qHo_0, if_neg (fun h => by have := h.2; unfold eLiv at this; simp [h1] at this), eM_0]
      · simp only [h1, if_false]
        refine step 0 ?_
        rw [qHo_0, if_pos ⟨rfl, by unfold eLiv; simp [h1]⟩, eM_s]; rfl
    · simp only [hb00, if_false]
      refine step (-1) ?_
      rw [qHo_0, if_neg (fun h => hb00 h.1), eM_0]
