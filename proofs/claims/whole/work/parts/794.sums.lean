/-! sums: start, copy, join -/
theorem s9_is {i s : Nat} (M : cM) (a b c d e : Int32) (hs : s < 5) : cg (cs (cs (cs (cs (cs M 9 i 0 a) 9 i 1 b) 9 i 2 c) 9 i 3 d) 9 i 4 e) 9 i s = if s = 0 then a else if s = 1 then b else if s = 2 then c else if s = 3 then d else e := by
  have : s = 0 ∨ s = 1 ∨ s = 2 ∨ s = 3 ∨ s = 4 := by omega
  rcases this with rfl | rfl | rfl | rfl | rfl <;> simp [cg_cs]
theorem s9_ot {i j s : Nat} (M : cM) (a b c d e : Int32) (hj : j ≠ i) : cg (cs (cs (cs (cs (cs M 9 i 0 a) 9 i 1 b) 9 i 2 c) 9 i 3 d) 9 i 4 e) 9 j s = cg M 9 j s := by
  simp only [cg_cs]
  rw [if_neg (fun h => hj h.2.1), if_neg (fun h => hj h.2.1), if_neg (fun h => hj h.2.1), if_neg (fun h => hj h.2.1), if_neg (fun h => hj h.2.1)]
def eK9 : List Nat := [10900, 10901, 10902, 10903, 10904]
/-- sum i of M' is the five; nothing else has moved -/
def eS5 (i : Nat) (M M' : cM) (a b c d e : Int32) : Prop := eF eK9 M M' ∧ M'.2 = M.2 ∧ (∀ j s, j ≠ i → cg M' 9 j s = cg M 9 j s) ∧ cg M' 9 i 0 = a ∧ cg M' 9 i 1 = b ∧ cg M' 9 i 2 = c ∧ cg M' 9 i 3 = d ∧ cg M' 9 i 4 = e
theorem eS5_mk (i : Nat) (M : cM) (a b c d e : Int32) : eS5 i M (cs (cs (cs (cs (cs M 9 i 0 a) 9 i 1 b) 9 i 2 c) 9 i 3 d) 9 i 4 e) a b c d e :=
  ⟨(by repeat (first | exact eF_refl | refine eF_cs ?_ rfl)), rfl, fun j s hj => s9_ot M a b c d e hj, s9_is M a b c d e (by omega), s9_is M a b c d e (by omega), s9_is M a b c d e (by omega), s9_is M a b c d e (by omega), s9_is M a b c d e (by omega)⟩
theorem start9_c {i : Nat} (hi : i < 51) (v id : Int32) (M : cM) : ∃ M', m9_start i v id M = some M' ∧ eS5 i M M' v v 1 v (zshl 1 id) := by
  refine ⟨_, ?_, eS5_mk i M v v 1 v (zshl 1 id)⟩
  unfold m9_start
  simp only [blt_t hi, zbd_s, zbv_s, zgd_t, Bool.and_true, Bool.true_and, Bool.and_self, if_true, if_false, e_01, eq_self, Bool.false_eq_true]
theorem copy9_c {i j : Nat} (hi : i < 51) (hj : j < 51) (hij : j ≠ i) (M : cM) : ∃ M', m9_copy i j M = some M' ∧ eS5 i M M' (cg M 9 j 0) (cg M 9 j 1) (cg M 9 j 2) (cg M 9 j 3) (cg M 9 j 4) := by
  refine ⟨_, ?_, eS5_mk i M _ _ _ _ _⟩
  have o : ∀ (N : cM) (s s' : Nat) (v : Int32), cg (cs N 9 i s v) 9 j s' = cg N 9 j s' := fun N s s' v => by rw [cg_cs, if_neg (fun h => hij h.2.1)]
  unfold m9_copy m9_copy_32
  simp only [blt_t hi, blt_t hj, o, zbd_s, zbv_s, zgd_t, Bool.and_true, Bool.true_and, Bool.and_self, if_true, if_false, e_01, eq_self, Bool.false_eq_true]
theorem min_c (x y : Int32) (M : cM) : mJ9_min x y M = some (if x ≤ y then x else y, M) := by
  unfold mJ9_min
  by_cases h : x ≤ y
  · rw [if_neg (Int32.not_lt.mpr h), if_pos h]
  · rw [if_pos (Int32.not_le.mp h), if_neg h]
theorem max_c (x y : Int32) (M : cM) : mJ9_max x y M = some (if y ≤ x then x else y, M) := by
  unfold mJ9_max
  by_cases h : y ≤ x
  · rw [if_neg (Int32.not_lt.mpr h), if_pos h]
  · rw [if_pos (Int32.not_le.mp h), if_neg h]
theorem empty9_c {i : Nat} (hi : i < 51) (M : cM) : m9_isEmpty i M = some (if cg M 9 i 2 = 0 then 1 else 0, M) := by
  unfold m9_isEmpty
  simp only [blt_t hi, zbd_s, zbv_s, zgd_t, Bool.and_true, Bool.true_and, Bool.and_self, if_true, if_false, e_01, eq_self, Bool.false_eq_true]
  by_cases h : cg M 9 i 2 = 0
  · rw [if_pos h, if_pos h]
  · rw [if_neg h, if_neg h]
theorem join9_c {i j : Nat} (hi : i < 51) (hj : j < 51) (hij : j ≠ i) (M : cM) (hn : ¬ cg M 9 j 2 = 0) (h0 : cg M 9 i 2 = 0 → cg M 9 i 3 = 0 ∧ cg M 9 i 4 = 0) : ∃ M', m9_join i j M = some M' ∧ eS5 i M M' (if cg M 9 i 2 = 0 then cg M 9 j 0 else if cg M 9 i 0 ≤ cg M 9 j 0 then cg M 9 i 0 else cg M 9 j 0) (if cg M 9 i 2 = 0 then cg M 9 j 1 else if cg M 9 j 1 ≤ cg M 9 i 1 then cg M 9 i 1 else cg M 9 j 1) (cg M 9 i 2 + cg M 9 j 2) (cg M 9 i 3 + cg M 9 j 3) (cg M 9 i 4 ||| cg M 9 j 4) := by
  have n10 : ((1 : Int32) = 0) = False := eq_false (by decide)
  unfold m9_join
  simp only [blt_t hi, blt_t hj, empty9_c hj, empty9_c hi, hn, zbd_s, zbv_s, zgd_t, Bool.and_true, Bool.true_and, Bool.and_self, if_true, if_false, e_01, eq_self, Bool.false_eq_true]
  by_cases hz : cg M 9 i 2 = 0
  · obtain ⟨M', a1, a2⟩ := copy9_c hi hj hij M
    obtain ⟨z3, z4⟩ := h0 hz
    simp only [hz, n10, a1, z3, z4, Int32.zero_add, Int32.zero_or, zbd_s, zbv_s, zgd_t, Bool.and_true, Bool.true_and, Bool.and_self, if_true, if_false, e_01, eq_self, Bool.false_eq_true]
    exact ⟨M', rfl, a2⟩
  · refine ⟨_, ?_, eS5_mk i M _ _ _ _ _⟩
    have o : ∀ (N : cM) (s s' : Nat) (v : Int32), cg (cs N 9 i s v) 9 j s' = cg N 9 j s' := fun N s s' v => by rw [cg_cs, if_neg (fun h => hij h.2.1)]
    have p : ∀ (N : cM) (s s' : Nat) (v : Int32), s' ≠ s → cg (cs N 9 i s v) 9 i s' = cg N 9 i s' := fun N s s' v h => by rw [cg_cs, if_neg (fun h' => h h'.2.2)]
    have p01 := fun (N : cM) v => p N 0 1 v (by omega)
    have p02 := fun (N : cM) v => p N 0 2 v (by omega)
    have p03 := fun (N : cM) v => p N 0 3 v (by omega)
    have p04 := fun (N : cM) v => p N 0 4 v (by omega)
    have p12 := fun (N : cM) v => p N 1 2 v (by omega)
    have p13 := fun (N : cM) v => p N 1 3 v (by omega)
    have p14 := fun (N : cM) v => p N 1 4 v (by omega)
    have p23 := fun (N : cM) v => p N 2 3 v (by omega)
    have p24 := fun (N : cM) v => p N 2 4 v (by omega)
    have p34 := fun (N : cM) v => p N 3 4 v (by omega)
    unfold m9_join_77
    simp only [hz, min_c, max_c, blt_t hi, blt_t hj, o, p01, p02, p03, p04, p12, p13, p14, p23, p24, p34, zbd_s, zbv_s, zgd_t, Bool.and_true, Bool.true_and, Bool.and_self, if_true, if_false, e_01, eq_self, Bool.false_eq_true]
theorem join12_e {x : Nat} (hx : x ≤ 10) (a b c d e : Int32) (M : rM) : ∃ M', m12_join (nI x) a b c d e M = some M' ∧ eH [1316] M M' ∧ (∀ j, j < 5 * x ∨ 5 * x + 5 ≤ j → rg M' 1316 0 j = rg M 1316 0 j) ∧ rg M' 1316 0 (5 * x) = (if rg M 1316 0 (5 * x + 2) = 0 then a else if rg M 1316 0 (5 * x) ≤ a then rg M 1316 0 (5 * x) else a) ∧ rg M' 1316 0 (5 * x + 1) = (if rg M 1316 0 (5 * x + 2) = 0 then b else if b ≤ rg M 1316 0 (5 * x + 1) then rg M 1316 0 (5 * x + 1) else b) ∧ rg M' 1316 0 (5 * x + 2) = rg M 1316 0 (5 * x + 2) + c ∧ rg M' 1316 0 (5 * x + 3) = rg M 1316 0 (5 * x + 3) + d ∧ rg M' 1316 0 (5 * x + 4) = rg M 1316 0 (5 * x + 4) ||| e := by
  have k1 : nI (5 * x) + (1 : Int32) = nI (5 * x + 1) := ep1 _
  have k2 : nI (5 * x) + (2 : Int32) = nI (5 * x + 2) := by rw [show (2 : Int32) = nI 2 from rfl, eI_add]
  have k3 : nI (5 * x) + (3 : Int32) = nI (5 * x + 3) := by rw [show (3 : Int32) = nI 3 from rfl, eI_add]
  have k4 : nI (5 * x) + (4 : Int32) = nI (5 * x + 4) := by rw [show (4 : Int32) = nI 4 from rfl, eI_add]
  have o : ∀ (N : rM) (s s' : Nat) (v : Int32), s' ≠ s → rg (rs N 1316 0 s v) 1316 0 s' = rg N 1316 0 s' := fun N s s' v h => by rw [rg_rs, if_neg (fun h' => h h'.2.2)]
  have o01 := fun (N : rM) v => o N (5 * x) (5 * x + 1) v (by omega)
  have o02 := fun (N : rM) v => o N (5 * x) (5 * x + 2) v (by omega)
  have o03 := fun (N : rM) v => o N (5 * x) (5 * x + 3) v (by omega)
  have o04 := fun (N : rM) v => o N (5 * x) (5 * x + 4) v (by omega)
  have o12 := fun (N : rM) v => o N (5 * x + 1) (5 * x + 2) v (by omega)
  have o13 := fun (N : rM) v => o N (5 * x + 1) (5 * x + 3) v (by omega)
  have o14 := fun (N : rM) v => o N (5 * x + 1) (5 * x + 4) v (by omega)
  have o23 := fun (N : rM) v => o N (5 * x + 2) (5 * x + 3) v (by omega)
  have o24 := fun (N : rM) v => o N (5 * x + 2) (5 * x + 4) v (by omega)
  have o34 := fun (N : rM) v => o N (5 * x + 3) (5 * x + 4) v (by omega)
  have n10 : ((1 : Int32) = 0) = False := eq_false (by decide)
  obtain ⟨A, hA⟩ : ∃ A, A = (if rg M 1316 0 (5 * x + 2) = 0 then a else if rg M 1316 0 (5 * x) ≤ a then rg M 1316 0 (5 * x) else a) := ⟨_, rfl⟩
  obtain ⟨B, hB⟩ : ∃ B, B = (if rg M 1316 0 (5 * x + 2) = 0 then b else if b ≤ rg M 1316 0 (5 * x + 1) then rg M 1316 0 (5 * x + 1) else b) := ⟨_, rfl⟩
  rw [← hA, ← hB]
  refine ⟨rs (rs (rs (rs (rs M 1316 0 (5 * x) A) 1316 0 (5 * x + 1) B) 1316 0 (5 * x + 2) (rg M 1316 0 (5 * x + 2) + c)) 1316 0 (5 * x + 3) (rg M 1316 0 (5 * x + 3) + d)) 1316 0 (5 * x + 4) (rg M 1316 0 (5 * x + 4) ||| e), ?_, (by repeat (first | exact eH_refl | refine eH_rs ?_ rfl | refine eH_rsl ?_)), ?_, ?_, ?_, ?_, ?_, ?_⟩
  · unfold m12_join m12_join_22 m12_join_57 m12_join_97 m12_join_126
    rw [e5, k2]
    simp only [ezin_nI (show 5 * x + 2 < 55 by omega) (show 55 < 2 ^ 31 by decide), ex_nI (show 5 * x + 2 < 2 ^ 31 by omega), zbd_s, zbv_s, zgd_t, Bool.and_true, Bool.true_and, Bool.and_self, if_true, if_false, e_01, eq_self, Bool.false_eq_true]
    by_cases hz : rg M 1316 0 (5 * x + 2) = 0
    · rw [if_pos hz] at hA hB
      simp only [hz, n10, ezin_nI (show 5 * x < 55 by omega) (show 55 < 2 ^ 31 by decide), ex_nI (show 5 * x < 2 ^ 31 by omega), k1, k2, k3, k4, ezin_nI (show 5 * x + 1 < 55 by omega) (show 55 < 2 ^ 31 by decide), ex_nI (show 5 * x + 1 < 2 ^ 31 by omega), ezin_nI (show 5 * x + 2 < 55 by omega) (show 55 < 2 ^ 31 by decide), ex_nI (show 5 * x + 2 < 2 ^ 31 by omega), ezin_nI (show 5 * x + 3 < 55 by omega) (show 55 < 2 ^ 31 by decide), ex_nI (show 5 * x + 3 < 2 ^ 31 by omega), ezin_nI (show 5 * x + 4 < 55 by omega) (show 55 < 2 ^ 31 by decide), ex_nI (show 5 * x + 4 < 2 ^ 31 by omega), o01, o02, o03, o04, o12, o13, o14, o23, o24, o34, hA, hB, zbd_s, zbv_s, zgd_t, Bool.and_true, Bool.true_and, Bool.and_self, if_true, if_false, e_01, eq_self, Bool.false_eq_true]
    · rw [if_neg hz] at hA hB
      simp only [hz, n10, ezin_nI (show 5 * x < 55 by omega) (show 55 < 2 ^ 31 by decide), ex_nI (show 5 * x < 2 ^ 31 by omega), k1, k2, k3, k4, ezin_nI (show 5 * x + 1 < 55 by omega) (show 55 < 2 ^ 31 by decide), ex_nI (show 5 * x + 1 < 2 ^ 31 by omega), ezin_nI (show 5 * x + 2 < 55 by omega) (show 55 < 2 ^ 31 by decide), ex_nI (show 5 * x + 2 < 2 ^ 31 by omega), ezin_nI (show 5 * x + 3 < 55 by omega) (show 55 < 2 ^ 31 by decide), ex_nI (show 5 * x + 3 < 2 ^ 31 by omega), ezin_nI (show 5 * x + 4 < 55 by omega) (show 55 < 2 ^ 31 by decide), ex_nI (show 5 * x + 4 < 2 ^ 31 by omega), o01, o02, o03, o04, o12, o13, o14, o23, o24, o34, zbd_s, zbv_s, zgd_t, Bool.and_true, Bool.true_and, Bool.and_self, if_true, if_false, e_01, eq_self, Bool.false_eq_true]
      by_cases h1 : rg M 1316 0 (5 * x) ≤ a
      · rw [if_pos h1] at hA
        by_cases h2 : b ≤ rg M 1316 0 (5 * x + 1)
        · rw [if_pos h2] at hB
          simp only [hA, hB, h1, h2, zbd_s, zbv_s, zgd_t, Bool.and_true, Bool.true_and, Bool.and_self, if_true, if_false, e_01, eq_self, Bool.false_eq_true]
        · rw [if_neg h2] at hB
          simp only [hA, hB, h1, h2, zbd_s, zbv_s, zgd_t, Bool.and_true, Bool.true_and, Bool.and_self, if_true, if_false, e_01, eq_self, Bool.false_eq_true]
      · rw [if_neg h1] at hA
        by_cases h2 : b ≤ rg M 1316 0 (5 * x + 1)
        · rw [if_pos h2] at hB
          simp only [hA, hB, h1, h2, zbd_s, zbv_s, zgd_t, Bool.and_true, Bool.true_and, Bool.and_self, if_true, if_false, e_01, eq_self, Bool.false_eq_true]
        · rw [if_neg h2] at hB
          simp only [hA, hB, h1, h2, zbd_s, zbv_s, zgd_t, Bool.and_true, Bool.true_and, Bool.and_self, if_true, if_false, e_01, eq_self, Bool.false_eq_true]
  · intro j hj
    rw [o _ _ _ _ (by omega), o _ _ _ _ (by omega), o _ _ _ _ (by omega), o _ _ _ _ (by omega), o _ _ _ _ (by omega)]
  · rw [o _ _ _ _ (by omega), o _ _ _ _ (by omega), o _ _ _ _ (by omega), o _ _ _ _ (by omega), rg_rs, if_pos ⟨rfl, rfl, rfl⟩]
  · rw [o _ _ _ _ (by omega), o _ _ _ _ (by omega), o _ _ _ _ (by omega), rg_rs, if_pos ⟨rfl, rfl, rfl⟩]
  · rw [o _ _ _ _ (by omega), o _ _ _ _ (by omega), rg_rs, if_pos ⟨rfl, rfl, rfl⟩]
  · rw [o _ _ _ _ (by omega), rg_rs, if_pos ⟨rfl, rfl, rfl⟩]
  · rw [rg_rs, if_pos ⟨rfl, rfl, rfl⟩]
