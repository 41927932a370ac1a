/-! the law's cases -/
theorem oz {n : Nat} {o : Option (Int32 × cM)} {o' : Option (Int32 × rM)} (h : eO n o o') : ∃ q : cM × rM, zbd o (fun r MC => zbd o' (fun r' MR => if r = r' then some (MC, MR) else none)) = some q ∧ eRel (n + 1) q.1 q.2 := by
  obtain ⟨r, MC, MR, h1, h2, h3⟩ := h
  refine ⟨(MC, MR), ?_, h3⟩
  rw [h1, zbd_s, h2, zbd_s, if_pos rfl]
theorem oz8 {n : Nat} {o : Option (Int64 × cM)} {o' : Option (Int64 × rM)} (h : eO8 n o o') : ∃ q : cM × rM, zbd o (fun r MC => zbd o' (fun r' MR => if lg_cmp r r' = 0 then some (MC, MR) else none)) = some q ∧ eRel (n + 1) q.1 q.2 := by
  obtain ⟨r, MC, MR, h1, h2, h3⟩ := h
  refine ⟨(MC, MR), ?_, h3⟩
  rw [h1, zbd_s, h2, zbd_s, if_pos ((lg_cmp_eq _ _).mpr rfl)]
/-- the call's ints are in the script -/
theorem in_scr {L i c : Nat} (hL : L ≤ 3072) (hi : i + 6 ≤ L) (hc : c ≤ 5) : zin (nI i + nI c) L = true := by
  rw [eI_add]; exact ezin_nI (by omega) (by omega)
theorem cs_0 {n L i : Nat} {xs : Nat → Int32} {MC : cM} {MR : rM} (hL : L ≤ 3072) (hi : i + 6 ≤ L) (hn : n < 600) (h : eRel n MC MR) : ∃ q, mL_0 L xs (nI i) MC MR = some q ∧ eRel (n + 1) q.1 q.2 := by
  have g1 : zin (nI i + (1 : Int32)) L = true := in_scr (c := 1) hL hi (by omega)
  have g2 : zin (nI i + (2 : Int32)) L = true := in_scr (c := 2) hL hi (by omega)
  have g3 : zin (nI i + (3 : Int32)) L = true := in_scr (c := 3) hL hi (by omega)
  have g4 : zin (nI i + (4 : Int32)) L = true := in_scr (c := 4) hL hi (by omega)
  have g5 : zin (nI i + (5 : Int32)) L = true := in_scr (c := 5) hL hi (by omega)
  unfold mL_0
  simp only [g1, g2, g3, g4, g5, zgd_t]
  exact oz (o_box h _ _)
theorem cs_1 {n L i : Nat} {xs : Nat → Int32} {MC : cM} {MR : rM} (hL : L ≤ 3072) (hi : i + 6 ≤ L) (hn : n < 600) (h : eRel n MC MR) : ∃ q, mL_1 L xs (nI i) MC MR = some q ∧ eRel (n + 1) q.1 q.2 := by
  have g1 : zin (nI i + (1 : Int32)) L = true := in_scr (c := 1) hL hi (by omega)
  have g2 : zin (nI i + (2 : Int32)) L = true := in_scr (c := 2) hL hi (by omega)
  have g3 : zin (nI i + (3 : Int32)) L = true := in_scr (c := 3) hL hi (by omega)
  have g4 : zin (nI i + (4 : Int32)) L = true := in_scr (c := 4) hL hi (by omega)
  have g5 : zin (nI i + (5 : Int32)) L = true := in_scr (c := 5) hL hi (by omega)
  unfold mL_1
  by_cases h3 : xs (nx (nI i + (3 : Int32))) = 0
  · simp only [g1, g2, g3, h3, if_true, zgd_t]
    exact oz (o_hears h _ _ _)
  · simp only [g1, g2, g3, h3, if_false, zgd_t]
    exact oz (o_hears h _ _ _)
theorem cs_2 {n L i : Nat} {xs : Nat → Int32} {MC : cM} {MR : rM} (hL : L ≤ 3072) (hi : i + 6 ≤ L) (hn : n < 600) (h : eRel n MC MR) : ∃ q, mL_2 L xs (nI i) MC MR = some q ∧ eRel (n + 1) q.1 q.2 := by
  have g1 : zin (nI i + (1 : Int32)) L = true := in_scr (c := 1) hL hi (by omega)
  have g2 : zin (nI i + (2 : Int32)) L = true := in_scr (c := 2) hL hi (by omega)
  have g3 : zin (nI i + (3 : Int32)) L = true := in_scr (c := 3) hL hi (by omega)
  have g4 : zin (nI i + (4 : Int32)) L = true := in_scr (c := 4) hL hi (by omega)
  have g5 : zin (nI i + (5 : Int32)) L = true := in_scr (c := 5) hL hi (by omega)
  unfold mL_2
  simp only [g1, g2, g3, g4, g5, zgd_t]
  exact oz (o_sleep h _ _ _)
theorem cs_3 {n L i : Nat} {xs : Nat → Int32} {MC : cM} {MR : rM} (hL : L ≤ 3072) (hi : i + 6 ≤ L) (hn : n < 600) (h : eRel n MC MR) : ∃ q, mL_3 L xs (nI i) MC MR = some q ∧ eRel (n + 1) q.1 q.2 := by
  have g1 : zin (nI i + (1 : Int32)) L = true := in_scr (c := 1) hL hi (by omega)
  have g2 : zin (nI i + (2 : Int32)) L = true := in_scr (c := 2) hL hi (by omega)
  have g3 : zin (nI i + (3 : Int32)) L = true := in_scr (c := 3) hL hi (by omega)
  have g4 : zin (nI i + (4 : Int32)) L = true := in_scr (c := 4) hL hi (by omega)
  have g5 : zin (nI i + (5 : Int32)) L = true := in_scr (c := 5) hL hi (by omega)
  unfold mL_3
  simp only [g1, g2, g3, g4, g5, zgd_t]
  exact oz (o_clock h _ _ _)
theorem cs_4 {n L i : Nat} {xs : Nat → Int32} {MC : cM} {MR : rM} (hL : L ≤ 3072) (hi : i + 6 ≤ L) (hn : n < 600) (h : eRel n MC MR) : ∃ q, mL_4 L xs (nI i) MC MR = some q ∧ eRel (n + 1) q.1 q.2 := by
  have g1 : zin (nI i + (1 : Int32)) L = true := in_scr (c := 1) hL hi (by omega)
  have g2 : zin (nI i + (2 : Int32)) L = true := in_scr (c := 2) hL hi (by omega)
  have g3 : zin (nI i + (3 : Int32)) L = true := in_scr (c := 3) hL hi (by omega)
  have g4 : zin (nI i + (4 : Int32)) L = true := in_scr (c := 4) hL hi (by omega)
  have g5 : zin (nI i + (5 : Int32)) L = true := in_scr (c := 5) hL hi (by omega)
  unfold mL_4
  simp only [g1, g2, g3, g4, g5, zgd_t]
  exact oz (o_set h _ _)
theorem cs_5 {n L i : Nat} {xs : Nat → Int32} {MC : cM} {MR : rM} (hL : L ≤ 3072) (hi : i + 6 ≤ L) (hn : n < 600) (h : eRel n MC MR) : ∃ q, mL_5 L xs (nI i) MC MR = some q ∧ eRel (n + 1) q.1 q.2 := by
  have g1 : zin (nI i + (1 : Int32)) L = true := in_scr (c := 1) hL hi (by omega)
  have g2 : zin (nI i + (2 : Int32)) L = true := in_scr (c := 2) hL hi (by omega)
  have g3 : zin (nI i + (3 : Int32)) L = true := in_scr (c := 3) hL hi (by omega)
  have g4 : zin (nI i + (4 : Int32)) L = true := in_scr (c := 4) hL hi (by omega)
  have g5 : zin (nI i + (5 : Int32)) L = true := in_scr (c := 5) hL hi (by omega)
  unfold mL_5
  simp only [g1, g2, g3, g4, g5, zgd_t]
  exact oz (o_power h _ _)
theorem cs_6 {n L i : Nat} {xs : Nat → Int32} {MC : cM} {MR : rM} (hL : L ≤ 3072) (hi : i + 6 ≤ L) (hn : n < 600) (h : eRel n MC MR) : ∃ q, mL_6 L xs (nI i) MC MR = some q ∧ eRel (n + 1) q.1 q.2 := by
  have g1 : zin (nI i + (1 : Int32)) L = true := in_scr (c := 1) hL hi (by omega)
  have g2 : zin (nI i + (2 : Int32)) L = true := in_scr (c := 2) hL hi (by omega)
  have g3 : zin (nI i + (3 : Int32)) L = true := in_scr (c := 3) hL hi (by omega)
  have g4 : zin (nI i + (4 : Int32)) L = true := in_scr (c := 4) hL hi (by omega)
  have g5 : zin (nI i + (5 : Int32)) L = true := in_scr (c := 5) hL hi (by omega)
  unfold mL_6
  simp only [g1, g2, g3, g4, g5, zgd_t]
  exact oz (o_at h _ _)
theorem cs_7 {n L i : Nat} {xs : Nat → Int32} {MC : cM} {MR : rM} (hL : L ≤ 3072) (hi : i + 6 ≤ L) (hn : n < 600) (h : eRel n MC MR) : ∃ q, mL_7 L xs (nI i) MC MR = some q ∧ eRel (n + 1) q.1 q.2 := by
  have g1 : zin (nI i + (1 : Int32)) L = true := in_scr (c := 1) hL hi (by omega)
  have g2 : zin (nI i + (2 : Int32)) L = true := in_scr (c := 2) hL hi (by omega)
  have g3 : zin (nI i + (3 : Int32)) L = true := in_scr (c := 3) hL hi (by omega)
  have g4 : zin (nI i + (4 : Int32)) L = true := in_scr (c := 4) hL hi (by omega)
  have g5 : zin (nI i + (5 : Int32)) L = true := in_scr (c := 5) hL hi (by omega)
  unfold mL_7
  simp only [g1, g2, g3, g4, g5, zgd_t]
  exact oz (o_rounds h _)
theorem cs_8 {n L i : Nat} {xs : Nat → Int32} {MC : cM} {MR : rM} (hL : L ≤ 3072) (hi : i + 6 ≤ L) (hn : n < 600) (h : eRel n MC MR) : ∃ q, mL_8 L xs (nI i) MC MR = some q ∧ eRel (n + 1) q.1 q.2 := by
  have g1 : zin (nI i + (1 : Int32)) L = true := in_scr (c := 1) hL hi (by omega)
  have g2 : zin (nI i + (2 : Int32)) L = true := in_scr (c := 2) hL hi (by omega)
  have g3 : zin (nI i + (3 : Int32)) L = true := in_scr (c := 3) hL hi (by omega)
  have g4 : zin (nI i + (4 : Int32)) L = true := in_scr (c := 4) hL hi (by omega)
  have g5 : zin (nI i + (5 : Int32)) L = true := in_scr (c := 5) hL hi (by omega)
  unfold mL_8
  exact oz (o_rings h)
theorem cs_9 {n L i : Nat} {xs : Nat → Int32} {MC : cM} {MR : rM} (hL : L ≤ 3072) (hi : i + 6 ≤ L) (hn : n < 600) (h : eRel n MC MR) : ∃ q, mL_9 L xs (nI i) MC MR = some q ∧ eRel (n + 1) q.1 q.2 := by
  have g1 : zin (nI i + (1 : Int32)) L = true := in_scr (c := 1) hL hi (by omega)
  have g2 : zin (nI i + (2 : Int32)) L = true := in_scr (c := 2) hL hi (by omega)
  have g3 : zin (nI i + (3 : Int32)) L = true := in_scr (c := 3) hL hi (by omega)
  have g4 : zin (nI i + (4 : Int32)) L = true := in_scr (c := 4) hL hi (by omega)
  have g5 : zin (nI i + (5 : Int32)) L = true := in_scr (c := 5) hL hi (by omega)
  unfold mL_9
  simp only [g1, g2, g3, g4, g5, zgd_t]
  exact oz (o_say h _ _)
theorem cs_10 {n L i : Nat} {xs : Nat → Int32} {MC : cM} {MR : rM} (hL : L ≤ 3072) (hi : i + 6 ≤ L) (hn : n < 600) (h : eRel n MC MR) : ∃ q, mL_10 L xs (nI i) MC MR = some q ∧ eRel (n + 1) q.1 q.2 := by
  have g1 : zin (nI i + (1 : Int32)) L = true := in_scr (c := 1) hL hi (by omega)
  have g2 : zin (nI i + (2 : Int32)) L = true := in_scr (c := 2) hL hi (by omega)
  have g3 : zin (nI i + (3 : Int32)) L = true := in_scr (c := 3) hL hi (by omega)
  have g4 : zin (nI i + (4 : Int32)) L = true := in_scr (c := 4) hL hi (by omega)
  have g5 : zin (nI i + (5 : Int32)) L = true := in_scr (c := 5) hL hi (by omega)
  unfold mL_10
  simp only [g1, g2, g3, g4, g5, zgd_t]
  exact oz (o_ticks h _)
theorem cs_11 {n L i : Nat} {xs : Nat → Int32} {MC : cM} {MR : rM} (hL : L ≤ 3072) (hi : i + 6 ≤ L) (hn : n < 600) (h : eRel n MC MR) : ∃ q, mL_11 L xs (nI i) MC MR = some q ∧ eRel (n + 1) q.1 q.2 := by
  have g1 : zin (nI i + (1 : Int32)) L = true := in_scr (c := 1) hL hi (by omega)
  have g2 : zin (nI i + (2 : Int32)) L = true := in_scr (c := 2) hL hi (by omega)
  have g3 : zin (nI i + (3 : Int32)) L = true := in_scr (c := 3) hL hi (by omega)
  have g4 : zin (nI i + (4 : Int32)) L = true := in_scr (c := 4) hL hi (by omega)
  have g5 : zin (nI i + (5 : Int32)) L = true := in_scr (c := 5) hL hi (by omega)
  unfold mL_11
  simp only [g1, g2, g3, g4, g5, zgd_t]
  exact oz (o_lost h _)
theorem cs_12 {n L i : Nat} {xs : Nat → Int32} {MC : cM} {MR : rM} (hL : L ≤ 3072) (hi : i + 6 ≤ L) (hn : n < 600) (h : eRel n MC MR) : ∃ q, mL_12 L xs (nI i) MC MR = some q ∧ eRel (n + 1) q.1 q.2 := by
  have g1 : zin (nI i + (1 : Int32)) L = true := in_scr (c := 1) hL hi (by omega)
  have g2 : zin (nI i + (2 : Int32)) L = true := in_scr (c := 2) hL hi (by omega)
  have g3 : zin (nI i + (3 : Int32)) L = true := in_scr (c := 3) hL hi (by omega)
  have g4 : zin (nI i + (4 : Int32)) L = true := in_scr (c := 4) hL hi (by omega)
  have g5 : zin (nI i + (5 : Int32)) L = true := in_scr (c := 5) hL hi (by omega)
  unfold mL_12
  simp only [g1, g2, g3, g4, g5, zgd_t]
  exact oz (o_kept h _)
theorem cs_13 {n L i : Nat} {xs : Nat → Int32} {MC : cM} {MR : rM} (hL : L ≤ 3072) (hi : i + 6 ≤ L) (hn : n < 600) (h : eRel n MC MR) : ∃ q, mL_13 L xs (nI i) MC MR = some q ∧ eRel (n + 1) q.1 q.2 := by
  have g1 : zin (nI i + (1 : Int32)) L = true := in_scr (c := 1) hL hi (by omega)
  have g2 : zin (nI i + (2 : Int32)) L = true := in_scr (c := 2) hL hi (by omega)
  have g3 : zin (nI i + (3 : Int32)) L = true := in_scr (c := 3) hL hi (by omega)
  have g4 : zin (nI i + (4 : Int32)) L = true := in_scr (c := 4) hL hi (by omega)
  have g5 : zin (nI i + (5 : Int32)) L = true := in_scr (c := 5) hL hi (by omega)
  unfold mL_13
  simp only [g1, g2, g3, g4, g5, zgd_t]
  exact oz (o_write h _ _)
theorem cs_14 {n L i : Nat} {xs : Nat → Int32} {MC : cM} {MR : rM} (hL : L ≤ 3072) (hi : i + 6 ≤ L) (hn : n < 600) (h : eRel n MC MR) : ∃ q, mL_14 L xs (nI i) MC MR = some q ∧ eRel (n + 1) q.1 q.2 := by
  have g1 : zin (nI i + (1 : Int32)) L = true := in_scr (c := 1) hL hi (by omega)
  have g2 : zin (nI i + (2 : Int32)) L = true := in_scr (c := 2) hL hi (by omega)
  have g3 : zin (nI i + (3 : Int32)) L = true := in_scr (c := 3) hL hi (by omega)
  have g4 : zin (nI i + (4 : Int32)) L = true := in_scr (c := 4) hL hi (by omega)
  have g5 : zin (nI i + (5 : Int32)) L = true := in_scr (c := 5) hL hi (by omega)
  unfold mL_14
  exact oz (o_erase h)
theorem cs_15 {n L i : Nat} {xs : Nat → Int32} {MC : cM} {MR : rM} (hL : L ≤ 3072) (hi : i + 6 ≤ L) (hn : n < 600) (h : eRel n MC MR) : ∃ q, mL_15 L xs (nI i) MC MR = some q ∧ eRel (n + 1) q.1 q.2 := by
  have g1 : zin (nI i + (1 : Int32)) L = true := in_scr (c := 1) hL hi (by omega)
  have g2 : zin (nI i + (2 : Int32)) L = true := in_scr (c := 2) hL hi (by omega)
  have g3 : zin (nI i + (3 : Int32)) L = true := in_scr (c := 3) hL hi (by omega)
  have g4 : zin (nI i + (4 : Int32)) L = true := in_scr (c := 4) hL hi (by omega)
  have g5 : zin (nI i + (5 : Int32)) L = true := in_scr (c := 5) hL hi (by omega)
  unfold mL_15
  exact oz (o_fault h)
theorem cs_16 {n L i : Nat} {xs : Nat → Int32} {MC : cM} {MR : rM} (hL : L ≤ 3072) (hi : i + 6 ≤ L) (hn : n < 600) (h : eRel n MC MR) : ∃ q, mL_16 L xs (nI i) MC MR = some q ∧ eRel (n + 1) q.1 q.2 := by
  have g1 : zin (nI i + (1 : Int32)) L = true := in_scr (c := 1) hL hi (by omega)
  have g2 : zin (nI i + (2 : Int32)) L = true := in_scr (c := 2) hL hi (by omega)
  have g3 : zin (nI i + (3 : Int32)) L = true := in_scr (c := 3) hL hi (by omega)
  have g4 : zin (nI i + (4 : Int32)) L = true := in_scr (c := 4) hL hi (by omega)
  have g5 : zin (nI i + (5 : Int32)) L = true := in_scr (c := 5) hL hi (by omega)
  unfold mL_16
  exact oz (o_ask h)
theorem cs_17 {n L i : Nat} {xs : Nat → Int32} {MC : cM} {MR : rM} (hL : L ≤ 3072) (hi : i + 6 ≤ L) (hn : n < 600) (h : eRel n MC MR) : ∃ q, mL_17 L xs (nI i) MC MR = some q ∧ eRel (n + 1) q.1 q.2 := by
  have g1 : zin (nI i + (1 : Int32)) L = true := in_scr (c := 1) hL hi (by omega)
  have g2 : zin (nI i + (2 : Int32)) L = true := in_scr (c := 2) hL hi (by omega)
  have g3 : zin (nI i + (3 : Int32)) L = true := in_scr (c := 3) hL hi (by omega)
  have g4 : zin (nI i + (4 : Int32)) L = true := in_scr (c := 4) hL hi (by omega)
  have g5 : zin (nI i + (5 : Int32)) L = true := in_scr (c := 5) hL hi (by omega)
  unfold mL_17
  simp only [g1, g2, g3, g4, g5, zgd_t]
  exact oz (o_loud h _ _ _)
theorem cs_18 {n L i : Nat} {xs : Nat → Int32} {MC : cM} {MR : rM} (hL : L ≤ 3072) (hi : i + 6 ≤ L) (hn : n < 600) (h : eRel n MC MR) : ∃ q, mL_18 L xs (nI i) MC MR = some q ∧ eRel (n + 1) q.1 q.2 := by
  have g1 : zin (nI i + (1 : Int32)) L = true := in_scr (c := 1) hL hi (by omega)
  have g2 : zin (nI i + (2 : Int32)) L = true := in_scr (c := 2) hL hi (by omega)
  have g3 : zin (nI i + (3 : Int32)) L = true := in_scr (c := 3) hL hi (by omega)
  have g4 : zin (nI i + (4 : Int32)) L = true := in_scr (c := 4) hL hi (by omega)
  have g5 : zin (nI i + (5 : Int32)) L = true := in_scr (c := 5) hL hi (by omega)
  unfold mL_18
  simp only [g1, g2, g3, g4, g5, zgd_t]
  exact oz (o_lies h _ _)
theorem cs_19 {n L i : Nat} {xs : Nat → Int32} {MC : cM} {MR : rM} (hL : L ≤ 3072) (hi : i + 6 ≤ L) (hn : n < 600) (h : eRel n MC MR) : ∃ q, mL_19 L xs (nI i) MC MR = some q ∧ eRel (n + 1) q.1 q.2 := by
  have g1 : zin (nI i + (1 : Int32)) L = true := in_scr (c := 1) hL hi (by omega)
  have g2 : zin (nI i + (2 : Int32)) L = true := in_scr (c := 2) hL hi (by omega)
  have g3 : zin (nI i + (3 : Int32)) L = true := in_scr (c := 3) hL hi (by omega)
  have g4 : zin (nI i + (4 : Int32)) L = true := in_scr (c := 4) hL hi (by omega)
  have g5 : zin (nI i + (5 : Int32)) L = true := in_scr (c := 5) hL hi (by omega)
  unfold mL_19
  simp only [g1, g2, g3, g4, g5, zgd_t]
  exact oz (o_result h _)
theorem cs_20 {n L i : Nat} {xs : Nat → Int32} {MC : cM} {MR : rM} (hL : L ≤ 3072) (hi : i + 6 ≤ L) (hn : n < 600) (h : eRel n MC MR) : ∃ q, mL_20 L xs (nI i) MC MR = some q ∧ eRel (n + 1) q.1 q.2 := by
  have g1 : zin (nI i + (1 : Int32)) L = true := in_scr (c := 1) hL hi (by omega)
  have g2 : zin (nI i + (2 : Int32)) L = true := in_scr (c := 2) hL hi (by omega)
  have g3 : zin (nI i + (3 : Int32)) L = true := in_scr (c := 3) hL hi (by omega)
  have g4 : zin (nI i + (4 : Int32)) L = true := in_scr (c := 4) hL hi (by omega)
  have g5 : zin (nI i + (5 : Int32)) L = true := in_scr (c := 5) hL hi (by omega)
  unfold mL_20
  simp only [g1, g2, g3, g4, g5, zgd_t]
  exact oz (o_foretold h _ _)
theorem cs_21 {n L i : Nat} {xs : Nat → Int32} {MC : cM} {MR : rM} (hL : L ≤ 3072) (hi : i + 6 ≤ L) (hn : n < 600) (h : eRel n MC MR) : ∃ q, mL_21 L xs (nI i) MC MR = some q ∧ eRel (n + 1) q.1 q.2 := by
  have g1 : zin (nI i + (1 : Int32)) L = true := in_scr (c := 1) hL hi (by omega)
  have g2 : zin (nI i + (2 : Int32)) L = true := in_scr (c := 2) hL hi (by omega)
  have g3 : zin (nI i + (3 : Int32)) L = true := in_scr (c := 3) hL hi (by omega)
  have g4 : zin (nI i + (4 : Int32)) L = true := in_scr (c := 4) hL hi (by omega)
  have g5 : zin (nI i + (5 : Int32)) L = true := in_scr (c := 5) hL hi (by omega)
  unfold mL_21
  simp only [g1, g2, g3, g4, g5, zgd_t]
  exact oz (o_life h _)
theorem cs_22 {n L i : Nat} {xs : Nat → Int32} {MC : cM} {MR : rM} (hL : L ≤ 3072) (hi : i + 6 ≤ L) (hn : n < 600) (h : eRel n MC MR) : ∃ q, mL_22 L xs (nI i) MC MR = some q ∧ eRel (n + 1) q.1 q.2 := by
  have g1 : zin (nI i + (1 : Int32)) L = true := in_scr (c := 1) hL hi (by omega)
  have g2 : zin (nI i + (2 : Int32)) L = true := in_scr (c := 2) hL hi (by omega)
  have g3 : zin (nI i + (3 : Int32)) L = true := in_scr (c := 3) hL hi (by omega)
  have g4 : zin (nI i + (4 : Int32)) L = true := in_scr (c := 4) hL hi (by omega)
  have g5 : zin (nI i + (5 : Int32)) L = true := in_scr (c := 5) hL hi (by omega)
  unfold mL_22
  exact oz (o_longest h)
theorem cs_23 {n L i : Nat} {xs : Nat → Int32} {MC : cM} {MR : rM} (hL : L ≤ 3072) (hi : i + 6 ≤ L) (hn : n < 600) (h : eRel n MC MR) : ∃ q, mL_23 L xs (nI i) MC MR = some q ∧ eRel (n + 1) q.1 q.2 := by
  have g1 : zin (nI i + (1 : Int32)) L = true := in_scr (c := 1) hL hi (by omega)
  have g2 : zin (nI i + (2 : Int32)) L = true := in_scr (c := 2) hL hi (by omega)
  have g3 : zin (nI i + (3 : Int32)) L = true := in_scr (c := 3) hL hi (by omega)
  have g4 : zin (nI i + (4 : Int32)) L = true := in_scr (c := 4) hL hi (by omega)
  have g5 : zin (nI i + (5 : Int32)) L = true := in_scr (c := 5) hL hi (by omega)
  unfold mL_23
  simp only [g1, g2, g3, g4, g5, zgd_t]
  exact oz (o_best h _)
theorem cs_24 {n L i : Nat} {xs : Nat → Int32} {MC : cM} {MR : rM} (hL : L ≤ 3072) (hi : i + 6 ≤ L) (hn : n < 600) (h : eRel n MC MR) : ∃ q, mL_24 L xs (nI i) MC MR = some q ∧ eRel (n + 1) q.1 q.2 := by
  have g1 : zin (nI i + (1 : Int32)) L = true := in_scr (c := 1) hL hi (by omega)
  have g2 : zin (nI i + (2 : Int32)) L = true := in_scr (c := 2) hL hi (by omega)
  have g3 : zin (nI i + (3 : Int32)) L = true := in_scr (c := 3) hL hi (by omega)
  have g4 : zin (nI i + (4 : Int32)) L = true := in_scr (c := 4) hL hi (by omega)
  have g5 : zin (nI i + (5 : Int32)) L = true := in_scr (c := 5) hL hi (by omega)
  unfold mL_24
  simp only [g1, g2, g3, g4, g5, zgd_t]
  exact oz (o_fact h _ _ _ _ _)
theorem cs_25 {n L i : Nat} {xs : Nat → Int32} {MC : cM} {MR : rM} (hL : L ≤ 3072) (hi : i + 6 ≤ L) (hn : n < 600) (h : eRel n MC MR) : ∃ q, mL_25 L xs (nI i) MC MR = some q ∧ eRel (n + 1) q.1 q.2 := by
  have g1 : zin (nI i + (1 : Int32)) L = true := in_scr (c := 1) hL hi (by omega)
  have g2 : zin (nI i + (2 : Int32)) L = true := in_scr (c := 2) hL hi (by omega)
  have g3 : zin (nI i + (3 : Int32)) L = true := in_scr (c := 3) hL hi (by omega)
  have g4 : zin (nI i + (4 : Int32)) L = true := in_scr (c := 4) hL hi (by omega)
  have g5 : zin (nI i + (5 : Int32)) L = true := in_scr (c := 5) hL hi (by omega)
  unfold mL_25
  simp only [g1, g2, g3, g4, g5, zgd_t]
  exact oz (o_hour h _ _ _)
theorem cs_26 {n L i : Nat} {xs : Nat → Int32} {MC : cM} {MR : rM} (hL : L ≤ 3072) (hi : i + 6 ≤ L) (hn : n < 600) (h : eRel n MC MR) : ∃ q, mL_26 L xs (nI i) MC MR = some q ∧ eRel (n + 1) q.1 q.2 := by
  have g1 : zin (nI i + (1 : Int32)) L = true := in_scr (c := 1) hL hi (by omega)
  have g2 : zin (nI i + (2 : Int32)) L = true := in_scr (c := 2) hL hi (by omega)
  have g3 : zin (nI i + (3 : Int32)) L = true := in_scr (c := 3) hL hi (by omega)
  have g4 : zin (nI i + (4 : Int32)) L = true := in_scr (c := 4) hL hi (by omega)
  have g5 : zin (nI i + (5 : Int32)) L = true := in_scr (c := 5) hL hi (by omega)
  unfold mL_26
  simp only [g1, g2, g3, g4, g5, zgd_t]
  exact oz (o_place h _ _)
theorem cs_27 {n L i : Nat} {xs : Nat → Int32} {MC : cM} {MR : rM} (hL : L ≤ 3072) (hi : i + 6 ≤ L) (hn : n < 600) (h : eRel n MC MR) : ∃ q, mL_27 L xs (nI i) MC MR = some q ∧ eRel (n + 1) q.1 q.2 := by
  have g1 : zin (nI i + (1 : Int32)) L = true := in_scr (c := 1) hL hi (by omega)
  have g2 : zin (nI i + (2 : Int32)) L = true := in_scr (c := 2) hL hi (by omega)
  have g3 : zin (nI i + (3 : Int32)) L = true := in_scr (c := 3) hL hi (by omega)
  have g4 : zin (nI i + (4 : Int32)) L = true := in_scr (c := 4) hL hi (by omega)
  have g5 : zin (nI i + (5 : Int32)) L = true := in_scr (c := 5) hL hi (by omega)
  unfold mL_27
  simp only [g1, g2, g3, g4, g5, zgd_t]
  exact oz8 (o_cells h _ _)
theorem cs_28 {n L i : Nat} {xs : Nat → Int32} {MC : cM} {MR : rM} (hL : L ≤ 3072) (hi : i + 6 ≤ L) (hn : n < 600) (h : eRel n MC MR) : ∃ q, mL_28 L xs (nI i) MC MR = some q ∧ eRel (n + 1) q.1 q.2 := by
  have g1 : zin (nI i + (1 : Int32)) L = true := in_scr (c := 1) hL hi (by omega)
  have g2 : zin (nI i + (2 : Int32)) L = true := in_scr (c := 2) hL hi (by omega)
  have g3 : zin (nI i + (3 : Int32)) L = true := in_scr (c := 3) hL hi (by omega)
  have g4 : zin (nI i + (4 : Int32)) L = true := in_scr (c := 4) hL hi (by omega)
  have g5 : zin (nI i + (5 : Int32)) L = true := in_scr (c := 5) hL hi (by omega)
  unfold mL_28
  simp only [g1, g2, g3, g4, g5, zgd_t]
  exact oz (o_program h _ _ hn)
theorem cs_29 {n L i : Nat} {xs : Nat → Int32} {MC : cM} {MR : rM} (hL : L ≤ 3072) (hi : i + 6 ≤ L) (hn : n < 600) (h : eRel n MC MR) : ∃ q, mL_29 L xs (nI i) MC MR = some q ∧ eRel (n + 1) q.1 q.2 := by
  have g1 : zin (nI i + (1 : Int32)) L = true := in_scr (c := 1) hL hi (by omega)
  have g2 : zin (nI i + (2 : Int32)) L = true := in_scr (c := 2) hL hi (by omega)
  have g3 : zin (nI i + (3 : Int32)) L = true := in_scr (c := 3) hL hi (by omega)
  have g4 : zin (nI i + (4 : Int32)) L = true := in_scr (c := 4) hL hi (by omega)
  have g5 : zin (nI i + (5 : Int32)) L = true := in_scr (c := 5) hL hi (by omega)
  unfold mL_29
  exact oz (o_hand h)
theorem cs_30 {n L i : Nat} {xs : Nat → Int32} {MC : cM} {MR : rM} (hL : L ≤ 3072) (hi : i + 6 ≤ L) (hn : n < 600) (h : eRel n MC MR) : ∃ q, mL_30 L xs (nI i) MC MR = some q ∧ eRel (n + 1) q.1 q.2 := by
  have g1 : zin (nI i + (1 : Int32)) L = true := in_scr (c := 1) hL hi (by omega)
  have g2 : zin (nI i + (2 : Int32)) L = true := in_scr (c := 2) hL hi (by omega)
  have g3 : zin (nI i + (3 : Int32)) L = true := in_scr (c := 3) hL hi (by omega)
  have g4 : zin (nI i + (4 : Int32)) L = true := in_scr (c := 4) hL hi (by omega)
  have g5 : zin (nI i + (5 : Int32)) L = true := in_scr (c := 5) hL hi (by omega)
  unfold mL_30
  simp only [g1, g2, g3, g4, g5, zgd_t]
  exact oz (o_tear h _ _ _)
theorem cs_31 {n L i : Nat} {xs : Nat → Int32} {MC : cM} {MR : rM} (hL : L ≤ 3072) (hi : i + 6 ≤ L) (hn : n < 600) (h : eRel n MC MR) : ∃ q, mL_31 L xs (nI i) MC MR = some q ∧ eRel (n + 1) q.1 q.2 := by
  have g1 : zin (nI i + (1 : Int32)) L = true := in_scr (c := 1) hL hi (by omega)
  have g2 : zin (nI i + (2 : Int32)) L = true := in_scr (c := 2) hL hi (by omega)
  have g3 : zin (nI i + (3 : Int32)) L = true := in_scr (c := 3) hL hi (by omega)
  have g4 : zin (nI i + (4 : Int32)) L = true := in_scr (c := 4) hL hi (by omega)
  have g5 : zin (nI i + (5 : Int32)) L = true := in_scr (c := 5) hL hi (by omega)
  unfold mL_31
  simp only [g1, g2, g3, g4, g5, zgd_t]
  exact oz (o_has hn h _ _)
theorem cs_32 {n L i : Nat} {xs : Nat → Int32} {MC : cM} {MR : rM} (hL : L ≤ 3072) (hi : i + 6 ≤ L) (hn : n < 600) (h : eRel n MC MR) : ∃ q, mL_32 L xs (nI i) MC MR = some q ∧ eRel (n + 1) q.1 q.2 := by
  have g1 : zin (nI i + (1 : Int32)) L = true := in_scr (c := 1) hL hi (by omega)
  have g2 : zin (nI i + (2 : Int32)) L = true := in_scr (c := 2) hL hi (by omega)
  have g3 : zin (nI i + (3 : Int32)) L = true := in_scr (c := 3) hL hi (by omega)
  have g4 : zin (nI i + (4 : Int32)) L = true := in_scr (c := 4) hL hi (by omega)
  have g5 : zin (nI i + (5 : Int32)) L = true := in_scr (c := 5) hL hi (by omega)
  unfold mL_32
  simp only [g1, g2, g3, g4, g5, zgd_t]
  exact oz (o_begin hn h _)
theorem cs_33 {n L i : Nat} {xs : Nat → Int32} {MC : cM} {MR : rM} (hL : L ≤ 3072) (hi : i + 6 ≤ L) (hn : n < 600) (h : eRel n MC MR) : ∃ q, mL_33 L xs (nI i) MC MR = some q ∧ eRel (n + 1) q.1 q.2 := by
  have g1 : zin (nI i + (1 : Int32)) L = true := in_scr (c := 1) hL hi (by omega)
  have g2 : zin (nI i + (2 : Int32)) L = true := in_scr (c := 2) hL hi (by omega)
  have g3 : zin (nI i + (3 : Int32)) L = true := in_scr (c := 3) hL hi (by omega)
  have g4 : zin (nI i + (4 : Int32)) L = true := in_scr (c := 4) hL hi (by omega)
  have g5 : zin (nI i + (5 : Int32)) L = true := in_scr (c := 5) hL hi (by omega)
  unfold mL_33
  simp only [g1, g2, g3, g4, g5, zgd_t]
  exact oz (o_days h _)
theorem cs_34 {n L i : Nat} {xs : Nat → Int32} {MC : cM} {MR : rM} (hL : L ≤ 3072) (hi : i + 6 ≤ L) (hn : n < 600) (h : eRel n MC MR) : ∃ q, mL_34 L xs (nI i) MC MR = some q ∧ eRel (n + 1) q.1 q.2 := by
  have g1 : zin (nI i + (1 : Int32)) L = true := in_scr (c := 1) hL hi (by omega)
  have g2 : zin (nI i + (2 : Int32)) L = true := in_scr (c := 2) hL hi (by omega)
  have g3 : zin (nI i + (3 : Int32)) L = true := in_scr (c := 3) hL hi (by omega)
  have g4 : zin (nI i + (4 : Int32)) L = true := in_scr (c := 4) hL hi (by omega)
  have g5 : zin (nI i + (5 : Int32)) L = true := in_scr (c := 5) hL hi (by omega)
  unfold mL_34
  by_cases h3 : xs (nx (nI i + (3 : Int32))) = 0
  · simp only [g1, g2, g3, h3, if_true, zgd_t]
    exact oz (o_way h _ _ _)
  · simp only [g1, g2, g3, h3, if_false, zgd_t]
    exact oz (o_way h _ _ _)
theorem cs_35 {n L i : Nat} {xs : Nat → Int32} {MC : cM} {MR : rM} (hL : L ≤ 3072) (hi : i + 6 ≤ L) (hn : n < 600) (h : eRel n MC MR) : ∃ q, mL_35 L xs (nI i) MC MR = some q ∧ eRel (n + 1) q.1 q.2 := by
  have g1 : zin (nI i + (1 : Int32)) L = true := in_scr (c := 1) hL hi (by omega)
  have g2 : zin (nI i + (2 : Int32)) L = true := in_scr (c := 2) hL hi (by omega)
  have g3 : zin (nI i + (3 : Int32)) L = true := in_scr (c := 3) hL hi (by omega)
  have g4 : zin (nI i + (4 : Int32)) L = true := in_scr (c := 4) hL hi (by omega)
  have g5 : zin (nI i + (5 : Int32)) L = true := in_scr (c := 5) hL hi (by omega)
  unfold mL_35
  simp only [g1, g2, g3, g4, g5, zgd_t]
  exact oz (o_ear h _ _)
theorem cs_36 {n L i : Nat} {xs : Nat → Int32} {MC : cM} {MR : rM} (hL : L ≤ 3072) (hi : i + 6 ≤ L) (hn : n < 600) (h : eRel n MC MR) : ∃ q, mL_36 L xs (nI i) MC MR = some q ∧ eRel (n + 1) q.1 q.2 := by
  have g1 : zin (nI i + (1 : Int32)) L = true := in_scr (c := 1) hL hi (by omega)
  have g2 : zin (nI i + (2 : Int32)) L = true := in_scr (c := 2) hL hi (by omega)
  have g3 : zin (nI i + (3 : Int32)) L = true := in_scr (c := 3) hL hi (by omega)
  have g4 : zin (nI i + (4 : Int32)) L = true := in_scr (c := 4) hL hi (by omega)
  have g5 : zin (nI i + (5 : Int32)) L = true := in_scr (c := 5) hL hi (by omega)
  unfold mL_36
  simp only [g1, g2, g3, g4, g5, zgd_t]
  exact oz (o_log h _ _ _)
theorem cs_37 {n L i : Nat} {xs : Nat → Int32} {MC : cM} {MR : rM} (hL : L ≤ 3072) (hi : i + 6 ≤ L) (hn : n < 600) (h : eRel n MC MR) : ∃ q, mL_37 L xs (nI i) MC MR = some q ∧ eRel (n + 1) q.1 q.2 := by
  have g1 : zin (nI i + (1 : Int32)) L = true := in_scr (c := 1) hL hi (by omega)
  have g2 : zin (nI i + (2 : Int32)) L = true := in_scr (c := 2) hL hi (by omega)
  have g3 : zin (nI i + (3 : Int32)) L = true := in_scr (c := 3) hL hi (by omega)
  have g4 : zin (nI i + (4 : Int32)) L = true := in_scr (c := 4) hL hi (by omega)
  have g5 : zin (nI i + (5 : Int32)) L = true := in_scr (c := 5) hL hi (by omega)
  unfold mL_37
  simp only [g1, g2, g3, g4, g5, zgd_t]
  exact oz (o_liars h _)
theorem cs_38 {n L i : Nat} {xs : Nat → Int32} {MC : cM} {MR : rM} (hL : L ≤ 3072) (hi : i + 6 ≤ L) (hn : n < 600) (h : eRel n MC MR) : ∃ q, mL_38 L xs (nI i) MC MR = some q ∧ eRel (n + 1) q.1 q.2 := by
  have g1 : zin (nI i + (1 : Int32)) L = true := in_scr (c := 1) hL hi (by omega)
  have g2 : zin (nI i + (2 : Int32)) L = true := in_scr (c := 2) hL hi (by omega)
  have g3 : zin (nI i + (3 : Int32)) L = true := in_scr (c := 3) hL hi (by omega)
  have g4 : zin (nI i + (4 : Int32)) L = true := in_scr (c := 4) hL hi (by omega)
  have g5 : zin (nI i + (5 : Int32)) L = true := in_scr (c := 5) hL hi (by omega)
  unfold mL_38
  exact oz (o_courses h)
theorem cs_39 {n L i : Nat} {xs : Nat → Int32} {MC : cM} {MR : rM} (hL : L ≤ 3072) (hi : i + 6 ≤ L) (hn : n < 600) (h : eRel n MC MR) : ∃ q, mL_39 L xs (nI i) MC MR = some q ∧ eRel (n + 1) q.1 q.2 := by
  have g1 : zin (nI i + (1 : Int32)) L = true := in_scr (c := 1) hL hi (by omega)
  have g2 : zin (nI i + (2 : Int32)) L = true := in_scr (c := 2) hL hi (by omega)
  have g3 : zin (nI i + (3 : Int32)) L = true := in_scr (c := 3) hL hi (by omega)
  have g4 : zin (nI i + (4 : Int32)) L = true := in_scr (c := 4) hL hi (by omega)
  have g5 : zin (nI i + (5 : Int32)) L = true := in_scr (c := 5) hL hi (by omega)
  unfold mL_39
  simp only [g1, g2, g3, g4, g5, zgd_t]
  exact oz (o_course h _ _)
theorem cs_40 {n L i : Nat} {xs : Nat → Int32} {MC : cM} {MR : rM} (hL : L ≤ 3072) (hi : i + 6 ≤ L) (hn : n < 600) (h : eRel n MC MR) : ∃ q, mL_40 L xs (nI i) MC MR = some q ∧ eRel (n + 1) q.1 q.2 := by
  have g1 : zin (nI i + (1 : Int32)) L = true := in_scr (c := 1) hL hi (by omega)
  have g2 : zin (nI i + (2 : Int32)) L = true := in_scr (c := 2) hL hi (by omega)
  have g3 : zin (nI i + (3 : Int32)) L = true := in_scr (c := 3) hL hi (by omega)
  have g4 : zin (nI i + (4 : Int32)) L = true := in_scr (c := 4) hL hi (by omega)
  have g5 : zin (nI i + (5 : Int32)) L = true := in_scr (c := 5) hL hi (by omega)
  unfold mL_40
  simp only [g1, g2, g3, g4, g5, zgd_t]
  exact oz (o_judge h _ _ _ _ _)
theorem cs_41 {n L i : Nat} {xs : Nat → Int32} {MC : cM} {MR : rM} (hL : L ≤ 3072) (hi : i + 6 ≤ L) (hn : n < 600) (h : eRel n MC MR) : ∃ q, mL_41 L xs (nI i) MC MR = some q ∧ eRel (n + 1) q.1 q.2 := by
  have g1 : zin (nI i + (1 : Int32)) L = true := in_scr (c := 1) hL hi (by omega)
  have g2 : zin (nI i + (2 : Int32)) L = true := in_scr (c := 2) hL hi (by omega)
  have g3 : zin (nI i + (3 : Int32)) L = true := in_scr (c := 3) hL hi (by omega)
  have g4 : zin (nI i + (4 : Int32)) L = true := in_scr (c := 4) hL hi (by omega)
  have g5 : zin (nI i + (5 : Int32)) L = true := in_scr (c := 5) hL hi (by omega)
  unfold mL_41
  exact oz (o_quarrel h)
theorem cs_42 {n L i : Nat} {xs : Nat → Int32} {MC : cM} {MR : rM} (hL : L ≤ 3072) (hi : i + 6 ≤ L) (hn : n < 600) (h : eRel n MC MR) : ∃ q, mL_42 L xs (nI i) MC MR = some q ∧ eRel (n + 1) q.1 q.2 := by
  have g1 : zin (nI i + (1 : Int32)) L = true := in_scr (c := 1) hL hi (by omega)
  have g2 : zin (nI i + (2 : Int32)) L = true := in_scr (c := 2) hL hi (by omega)
  have g3 : zin (nI i + (3 : Int32)) L = true := in_scr (c := 3) hL hi (by omega)
  have g4 : zin (nI i + (4 : Int32)) L = true := in_scr (c := 4) hL hi (by omega)
  have g5 : zin (nI i + (5 : Int32)) L = true := in_scr (c := 5) hL hi (by omega)
  unfold mL_42
  simp only [g1, g2, g3, g4, g5, zgd_t]
  exact oz (o_settle h _ _ _ _ _)
theorem cs_43 {n L i : Nat} {xs : Nat → Int32} {MC : cM} {MR : rM} (hL : L ≤ 3072) (hi : i + 6 ≤ L) (hn : n < 600) (h : eRel n MC MR) : ∃ q, mL_43 L xs (nI i) MC MR = some q ∧ eRel (n + 1) q.1 q.2 := by
  have g1 : zin (nI i + (1 : Int32)) L = true := in_scr (c := 1) hL hi (by omega)
  have g2 : zin (nI i + (2 : Int32)) L = true := in_scr (c := 2) hL hi (by omega)
  have g3 : zin (nI i + (3 : Int32)) L = true := in_scr (c := 3) hL hi (by omega)
  have g4 : zin (nI i + (4 : Int32)) L = true := in_scr (c := 4) hL hi (by omega)
  have g5 : zin (nI i + (5 : Int32)) L = true := in_scr (c := 5) hL hi (by omega)
  unfold mL_43
  simp only [g1, g2, g3, g4, g5, zgd_t]
  exact oz (o_count h _)
theorem cs_sw {n L i : Nat} {xs : Nat → Int32} {MC : cM} {MR : rM} (hL : L ≤ 3072) (hi : i + 6 ≤ L) (hn : n < 600) (h : eRel n MC MR) : ∃ q, mL_sw L xs (nI i) MC MR = some q ∧ eRel (n + 1) q.1 q.2 := by
  unfold mL_sw
  rw [ezin_nI (show i < L by omega) (by omega), zgd_t]
  obtain ⟨w, hw⟩ : ∃ w, w = xs (nx (nI i)) &&& 63 := ⟨_, rfl⟩
  rw [← hw]
  by_cases h0 : w = 0
  · rw [if_pos h0]; exact cs_0 hL hi hn h
  rw [if_neg h0]
  by_cases h1 : w = 1
  · rw [if_pos h1]; exact cs_1 hL hi hn h
  rw [if_neg h1]
  by_cases h2 : w = 2
  · rw [if_pos h2]; exact cs_2 hL hi hn h
  rw [if_neg h2]
  by_cases h3 : w = 3
  · rw [if_pos h3]; exact cs_3 hL hi hn h
  rw [if_neg h3]
  by_cases h4 : w = 4
  · rw [if_pos h4]; exact cs_4 hL hi hn h
  rw [if_neg h4]
  by_cases h5 : w = 5
  · rw [if_pos h5]; exact cs_5 hL hi hn h
  rw [if_neg h5]
  by_cases h6 : w = 6
  · rw [if_pos h6]; exact cs_6 hL hi hn h
  rw [if_neg h6]
  by_cases h7 : w = 7
  · rw [if_pos h7]; exact cs_7 hL hi hn h
  rw [if_neg h7]
  by_cases h8 : w = 8
  · rw [if_pos h8]; exact cs_8 hL hi hn h
  rw [if_neg h8]
  by_cases h9 : w = 9
  · rw [if_pos h9]; exact cs_9 hL hi hn h
  rw [if_neg h9]
  by_cases h10 : w = 10
  · rw [if_pos h10]; exact cs_10 hL hi hn h
  rw [if_neg h10]
  by_cases h11 : w = 11
  · rw [if_pos h11]; exact cs_11 hL hi hn h
  rw [if_neg h11]
  by_cases h12 : w = 12
  · rw [if_pos h12]; exact cs_12 hL hi hn h
  rw [if_neg h12]
  by_cases h13 : w = 13
  · rw [if_pos h13]; exact cs_13 hL hi hn h
  rw [if_neg h13]
  by_cases h14 : w = 14
  · rw [if_pos h14]; exact cs_14 hL hi hn h
  rw [if_neg h14]
  by_cases h15 : w = 15
  · rw [if_pos h15]; exact cs_15 hL hi hn h
  rw [if_neg h15]
  by_cases h16 : w = 16
  · rw [if_pos h16]; exact cs_16 hL hi hn h
  rw [if_neg h16]
  by_cases h17 : w = 17
  · rw [if_pos h17]; exact cs_17 hL hi hn h
  rw [if_neg h17]
  by_cases h18 : w = 18
  · rw [if_pos h18]; exact cs_18 hL hi hn h
  rw [if_neg h18]
  by_cases h19 : w = 19
  · rw [if_pos h19]; exact cs_19 hL hi hn h
  rw [if_neg h19]
  by_cases h20 : w = 20
  · rw [if_pos h20]; exact cs_20 hL hi hn h
  rw [if_neg h20]
  by_cases h21 : w = 21
  · rw [if_pos h21]; exact cs_21 hL hi hn h
  rw [if_neg h21]
  by_cases h22 : w = 22
  · rw [if_pos h22]; exact cs_22 hL hi hn h
  rw [if_neg h22]
  by_cases h23 : w = 23
  · rw [if_pos h23]; exact cs_23 hL hi hn h
  rw [if_neg h23]
  by_cases h24 : w = 24
  · rw [if_pos h24]; exact cs_24 hL hi hn h
  rw [if_neg h24]
  by_cases h25 : w = 25
  · rw [if_pos h25]; exact cs_25 hL hi hn h
  rw [if_neg h25]
  by_cases h26 : w = 26
  · rw [if_pos h26]; exact cs_26 hL hi hn h
  rw [if_neg h26]
  by_cases h27 : w = 27
  · rw [if_pos h27]; exact cs_27 hL hi hn h
  rw [if_neg h27]
  by_cases h28 : w = 28
  · rw [if_pos h28]; exact cs_28 hL hi hn h
  rw [if_neg h28]
  by_cases h29 : w = 29
  · rw [if_pos h29]; exact cs_29 hL hi hn h
  rw [if_neg h29]
  by_cases h30 : w = 30
  · rw [if_pos h30]; exact cs_30 hL hi hn h
  rw [if_neg h30]
  by_cases h31 : w = 31
  · rw [if_pos h31]; exact cs_31 hL hi hn h
  rw [if_neg h31]
  by_cases h32 : w = 32
  · rw [if_pos h32]; exact cs_32 hL hi hn h
  rw [if_neg h32]
  by_cases h33 : w = 33
  · rw [if_pos h33]; exact cs_33 hL hi hn h
  rw [if_neg h33]
  by_cases h34 : w = 34
  · rw [if_pos h34]; exact cs_34 hL hi hn h
  rw [if_neg h34]
  by_cases h35 : w = 35
  · rw [if_pos h35]; exact cs_35 hL hi hn h
  rw [if_neg h35]
  by_cases h36 : w = 36
  · rw [if_pos h36]; exact cs_36 hL hi hn h
  rw [if_neg h36]
  by_cases h37 : w = 37
  · rw [if_pos h37]; exact cs_37 hL hi hn h
  rw [if_neg h37]
  by_cases h38 : w = 38
  · rw [if_pos h38]; exact cs_38 hL hi hn h
  rw [if_neg h38]
  by_cases h39 : w = 39
  · rw [if_pos h39]; exact cs_39 hL hi hn h
  rw [if_neg h39]
  by_cases h40 : w = 40
  · rw [if_pos h40]; exact cs_40 hL hi hn h
  rw [if_neg h40]
  by_cases h41 : w = 41
  · rw [if_pos h41]; exact cs_41 hL hi hn h
  rw [if_neg h41]
  by_cases h42 : w = 42
  · rw [if_pos h42]; exact cs_42 hL hi hn h
  rw [if_neg h42]
  by_cases h43 : w = 43
  · rw [if_pos h43]; exact cs_43 hL hi hn h
  rw [if_neg h43]
  obtain ⟨m, t, hm, ht, g0, g1, g2, g3, g4, g5, g6, g7, g8, g9⟩ := h
  exact ⟨(MC, MR), rfl, m, t, hm, ht, g0, g1, g2, g3, g4, g5, g6, eG7_mono g7 (Nat.le_succ n), g8, g9⟩
theorem law_true {L : Nat} (hL : L ≤ 3072) (xs : Nat → Int32) : ∃ f, mLw L xs f 0 cM0 rM0 = true := by
  have key : ∀ d k f MC MR, k + d = 512 → d < f → eRel k MC MR → mLw L xs f (nI (6 * k)) MC MR = true := by
    intro d
    induction d with
    | zero =>
      intro k f MC MR hk hf h
      obtain ⟨f, rfl⟩ : ∃ f', f = f' + 1 := ⟨f - 1, by omega⟩
      rw [mLw, if_pos]
      show nI L - 6 < nI (6 * k)
      rw [Int32.lt_iff_toInt_lt, Int32.toInt_sub, nI_toInt (by omega), nI_toInt (by omega), show (6 : Int32).toInt = 6 from rfl, en_bmod (by omega) (by omega)]
      omega
    | succ d ih =>
      intro k f MC MR hk hf h
      obtain ⟨f, rfl⟩ : ∃ f', f = f' + 1 := ⟨f - 1, by omega⟩
      rw [mLw]
      have e : (Int32.ofNat L - 6 < nI (6 * k)) ↔ ((L : Int) - 6 < 6 * k) := by
        show nI L - 6 < nI (6 * k) ↔ _
        rw [Int32.lt_iff_toInt_lt, Int32.toInt_sub, nI_toInt (by omega), nI_toInt (by omega), show (6 : Int32).toInt = 6 from rfl, en_bmod (by omega) (by omega)]
        omega
      by_cases hc : (L : Int) - 6 < 6 * k
      · rw [if_pos (e.mpr hc)]
      · rw [if_neg (fun h => hc (e.mp h))]
        obtain ⟨q, q1, q2⟩ := cs_sw (xs := xs) (i := 6 * k) hL (by omega) (show k < 600 by omega) h
        rw [q1]
        show mLw L xs f (nI (6 * k) + 6) q.1 q.2 = true
        rw [show nI (6 * k) + (6 : Int32) = nI (6 * (k + 1)) from by rw [show (6 : Int32) = nI 6 from rfl, eI_add]; rfl]
        exact ih (k + 1) f q.1 q.2 (by omega) (by omega) q2
  exact ⟨600, key 512 0 600 cM0 rM0 (by omega) (by omega) rel_0⟩
