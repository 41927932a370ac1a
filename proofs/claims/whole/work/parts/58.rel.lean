/-! the relation of the two memories, in groups -/
def eG0 (m t : Nat) (MC : cM) (MR : rM) : Prop := cg MC 3 0 4 = nI m ∧ rg MR 12 0 0 = nI m ∧ cg MC 3 0 5 = nI t ∧ rg MR 12 0 13 = nI t ∧ ∀ j : Nat, j < 7 → cg MC 401 0 j = rg MR 1312 0 j ∧ 0 ≤ rg MR 1312 0 j ∧ zsv 0 j ≤ rg MR 1312 0 j ∧ rg MR 1312 0 j ≤ zsv 1 j
def eG1 (m : Nat) (MC : cM) (MR : rM) : Prop := (∀ b : Nat, b < 10 → cg MC 2 b 0 = nI b ∧ cg MC 2 b 1 = rg MR 1301 0 b ∧ (cg MC 2 b 2 = rg MR 1302 0 b ∧ 0 ≤ rg MR 1302 0 b ∧ rg MR 1302 0 b ≤ 30000) ∧ cg MC 2 b 5 = rg MR 1305 0 b ∧ cg MC 2 b 6 = rg MR 1306 0 b ∧ (cg MC 2 b 9 = rg MR 1307 0 b ∧ ∀ j : Nat, (m ≤ j ∨ j = b) → eb (rg MR 1307 0 b) j = false) ∧ (cg MC 2 b 10 = rg MR 1345 0 b ∧ 0 ≤ rg MR 1345 0 b ∧ rg MR 1345 0 b ≤ 16) ∧ (cg MC 2 b 11 = rg MR 1358 0 b ∧ 0 ≤ rg MR 1358 0 b ∧ rg MR 1358 0 b ≤ 36)) ∧ (∀ b j : Nat, b < 10 → j < 24 → cg MC 312 b j = rg MR 1344 0 (24 * b + j) ∧ 0 ≤ rg MR 1344 0 (24 * b + j) ∧ rg MR 1344 0 (24 * b + j) ≤ 16) ∧ (∀ b : Nat, b < m → cg MC 2 b 3 = rg MR 1303 0 b ∧ 1 ≤ rg MR 1303 0 b ∧ rg MR 1303 0 b ≤ 12 ∧ cg MC 2 b 4 = rg MR 1304 0 b) ∧ (∀ b : Nat, b < 10 → m ≤ b → cg MC 2 b 3 = 1 ∧ cg MC 2 b 4 = 1)
def eG2 (m : Nat) (MC : cM) (MR : rM) : Prop := (∀ b : Nat, b < m → cg MC 2 b 7 = rg MR 1309 0 b ∧ cg MC 2 b 8 = rg MR 1308 0 b ∧ ((rg MR 1309 0 b = -1 ∧ rg MR 1308 0 b = -1) ∨ (1 ≤ b ∧ 1 ≤ rg MR 1308 0 b ∧ rg MR 1308 0 b ≤ 9 ∧ ∃ p : Nat, p < m ∧ p ≠ b ∧ rg MR 1309 0 b = nI p))) ∧ (∀ b : Nat, b < 10 → m ≤ b → cg MC 2 b 7 = -1 ∧ cg MC 2 b 8 = -1)
/-- a row's place k of box b -/
def eEn (b k : Nat) (MC : cM) (MR : rM) : Prop := (rg MR 1315 0 (24 * b + 6 * k) = 0 ∧ cg MC 900 b k = rg MR 1315 0 (24 * b + 6 * k + 1) ∧ 0 ≤ cg MC 900 b k) ∨ (rg MR 1315 0 (24 * b + 6 * k) = 1 ∧ cg MC 900 b k = -1 ∧ cg MC 9 (cp MC 901 b k) 2 ≠ 0 ∧ ∀ s : Nat, s < 5 → cg MC 9 (cp MC 901 b k) s = rg MR 1315 0 (24 * b + 6 * k + 1 + s))
def eRow (b : Nat) (MC : cM) (MR : rM) : Prop := ∃ q : Nat, q ≤ 4 ∧ cg MC 8 b 2 = nI q ∧ rg MR 1314 0 b = nI q ∧ ∀ k : Nat, k < q → eEn b k MC MR
/-- a sum's numbers are small -/
def eSm (i : Nat) (MC : cM) : Prop := ∃ mn al : Nat, mn ≤ 10 ∧ al ≤ 15 * mn ∧ cg MC 9 i 2 = nI mn ∧ cg MC 9 i 3 = nI al ∧ (mn = 0 → cg MC 9 i 4 = 0)
def eSig : Nat → (Nat → Nat) → Nat
  | 0, _ => 0
  | n + 1, f => eSig n f + f n
/-- what a box's own sum counts, while unsaid; what its row's place k counts -/
def eM1 (MC : cM) (b : Nat) : Nat := if cg MC 2 b 14 = 0 then nx (cg MC 9 b 2) else 0
def eM2 (MC : cM) (b k : Nat) : Nat := if cg MC 900 b k = -1 then nx (cg MC 9 (cp MC 901 b k) 2) else 0
def eM3 (MC : cM) (b : Nat) : Nat := eSig (nx (cg MC 8 b 2)) (eM2 MC b)
def eMs (MC : cM) : Nat := eSig 10 (eM1 MC) + eSig 10 (eM3 MC) + nx (cg MC 9 50 2)
def ePt (MC : cM) : Prop := (∀ b k : Nat, b < 10 → k < 4 → 10 + 4 * b ≤ cp MC 901 b k ∧ cp MC 901 b k < 14 + 4 * b) ∧ (∀ b k l : Nat, b < 10 → k < l → l < 4 → cp MC 901 b k ≠ cp MC 901 b l)
def eG3 (m : Nat) (MC : cM) (MR : rM) : Prop := (∀ b : Nat, b < 10 → eRow b MC MR) ∧ ePt MC ∧ (∀ b s : Nat, b < 10 → s < 5 → cg MC 9 b s = rg MR 1316 0 (5 * b + s)) ∧ (∀ s : Nat, s < 5 → cg MC 9 50 s = rg MR 1316 0 (50 + s)) ∧ cg MC 9 0 2 = 0 ∧ (∀ b : Nat, b < 10 → cg MC 2 b 14 = rg MR 1317 0 b ∧ (rg MR 1317 0 b = 0 ∨ rg MR 1317 0 b = 1)) ∧ (∀ b : Nat, b < 10 → m ≤ b → cg MC 8 b 2 = 0 ∧ cg MC 2 b 14 = 0 ∧ ∀ s : Nat, s < 5 → cg MC 9 b s = 0) ∧ (∀ i : Nat, i < 51 → eSm i MC) ∧ eMs MC ≤ 10
def eG9 (MC : cM) (MR : rM) : Prop := cg MC 0 0 6 = rg MR 12 0 18 ∧ (∀ j : Nat, j < 8 → cg MC 103 0 j = rg MR 1319 0 j) ∧ (∃ q : Nat, q ≤ 12 ∧ cg MC 0 0 5 = nI q ∧ rg MR 12 0 20 = nI q) ∧ (∀ i : Nat, i < 12 → cg MC 104 0 i = rg MR 1321 0 i)
def eG4 (MC : cM) (MR : rM) : Prop := ∃ q : Nat, q ≤ 120 ∧ cg MC 10 0 1 = nI q ∧ rg MR 12 0 28 = nI q ∧ ∀ j : Nat, j < q → cg MC 1100 0 j = rg MR 1329 0 j ∧ 0 ≤ rg MR 1329 0 j ∧ rg MR 1329 0 j ≤ 255
/-- condition k of question i is the reference's, in rows kr -/
def eCd (i kr k : Nat) (MC : cM) (MR : rM) : Prop := (rg MR kr 0 (3 * k) = 0 ∧ cg MC 803 i k = 0 ∨ rg MR kr 0 (3 * k) = 1 ∧ cg MC 803 i k = 1) ∧ (rg MR kr 0 (3 * k + 1) = 0 ∧ cg MC 804 i k = 1 ∨ rg MR kr 0 (3 * k + 1) = 1 ∧ cg MC 804 i k = 0) ∧ cg MC 805 i k = rg MR kr 0 (3 * k + 2)
def eG5 (MC : cM) (MR : rM) : Prop := (rg MR 12 0 40 = 0 ∧ cg MC 7 1 1 = 0 ∨ ∃ a e c : Nat, 1 ≤ a ∧ a ≤ 4 ∧ 1 ≤ e ∧ e ≤ 60 ∧ c ≤ 8 ∧ rg MR 12 0 40 = nI a ∧ cg MC 7 1 0 = nI (a - 1) ∧ rg MR 12 0 41 = nI e ∧ cg MC 7 1 1 = nI e ∧ rg MR 12 0 42 = nI c ∧ cg MC 7 1 2 = nI c ∧ ∀ k : Nat, k < c → eCd 1 1343 k MC MR)
def eG6 (m : Nat) (MC : cM) (MR : rM) : Prop := ∃ f : Nat, f ≤ 20 ∧ cg MC 1 0 6 = nI f ∧ rg MR 12 0 51 = nI f ∧ ∀ i : Nat, i < f → cg MC 201 0 i = rg MR 1352 0 i ∧ cg MC 202 0 i = rg MR 1353 0 i ∧ cg MC 203 0 i = rg MR 1354 0 i ∧ cg MC 204 0 i = rg MR 1355 0 i ∧ cg MC 205 0 i = rg MR 1356 0 i ∧ (∃ p a b : Nat, p < m ∧ a < m ∧ b < m ∧ a ≠ b ∧ rg MR 1352 0 i = nI p ∧ rg MR 1353 0 i = nI a ∧ rg MR 1354 0 i = nI b) ∧ -999 ≤ rg MR 1355 0 i ∧ rg MR 1355 0 i ≤ rg MR 1356 0 i ∧ rg MR 1356 0 i ≤ 999
def eG7 (n m : Nat) (MC : cM) (MR : rM) : Prop := (∃ pn ps : Nat, pn ≤ n ∧ ps ≤ 8 ∧ (pn = 0 ↔ ps = 0) ∧ cg MC 6 0 1 = nI pn ∧ rg MR 12 0 59 = nI pn ∧ cg MC 6 0 2 = nI ps ∧ rg MR 12 0 60 = nI ps ∧ cg MC 6 0 3 = rg MR 12 0 61) ∧ (∀ b : Nat, b < 10 → cg MC 2 b 16 = rg MR 1362 0 b ∧ cg MC 2 b 18 = rg MR 1366 0 b ∧ (m ≤ b → rg MR 1362 0 b = 0)) ∧ (∀ b p : Nat, b < 10 → p < 8 → cg MC 317 b p = rg MR 1364 0 (8 * b + p) ∧ 0 ≤ rg MR 1364 0 (8 * b + p) ∧ rg MR 1364 0 (8 * b + p) ≤ 255)
def eG8 (MC : cM) (MR : rM) : Prop := (∃ d : Nat, 1 ≤ d ∧ d ≤ 5 ∧ cg MC 4 0 1 = nI d ∧ rg MR 12 0 67 = nI d) ∧ (cg MC 4 0 2 = rg MR 12 0 71 ∧ 0 ≤ rg MR 12 0 71 ∧ rg MR 12 0 71 ≤ 63) ∧ (∀ e : Nat, e < 6 → cg MC 503 0 e = rg MR 1369 0 e ∧ 0 ≤ rg MR 1369 0 e ∧ rg MR 1369 0 e ≤ 63) ∧ (∀ j : Nat, j < 30 → cg MC 504 0 j = rg MR 1370 0 j ∧ (rg MR 1370 0 j = 0 ∨ rg MR 1370 0 j = 1 ∨ rg MR 1370 0 j = 2)) ∧ (∀ a : Nat, a < 6 → cg MC 505 0 a = rg MR 1368 0 a ∧ ∀ b : Nat, b < 6 → eb (rg MR 1368 0 a) b = eb (rg MR 1368 0 b) a) ∧ (cp MC 4 0 8 = 0 ∧ cp MC 4 0 9 = 1 ∨ cp MC 4 0 8 = 1 ∧ cp MC 4 0 9 = 0)
def eRel (n : Nat) (MC : cM) (MR : rM) : Prop := ∃ m t : Nat, m ≤ 10 ∧ t ≤ 9000 ∧ eG0 m t MC MR ∧ eG1 m MC MR ∧ eG2 m MC MR ∧ eG3 m MC MR ∧ eG4 MC MR ∧ eG5 MC MR ∧ eG6 m MC MR ∧ eG7 n m MC MR ∧ eG8 MC MR ∧ eG9 MC MR
/-! what a group doesn't speak of may change -/
theorem eG0_fr {m t : Nat} {MC MC' : cM} {MR MR' : rM} (h : eG0 m t MC MR) {K K' : List Nat} (hC : eF K MC MC') (hR : eH K' MR MR') (d : eDj K [10304, 10305, 401] = true) (d' : eDj K' [11200, 11213, 1312] = true) : eG0 m t MC' MR' := by
  unfold eG0 at *
  simp only [eF_at hC d 3 0 4 rfl, eF_at hC d 3 0 5 rfl, fun j => eF_at hC d 401 0 j rfl, eH_at hR d' 12 0 0 rfl, eH_at hR d' 12 0 13 rfl, fun j => eH_at hR d' 1312 0 j rfl]
  exact h
theorem eG1_fr {m : Nat} {MC MC' : cM} {MR MR' : rM} (h : eG1 m MC MR) {K K' : List Nat} (hC : eF K MC MC') (hR : eH K' MR MR') (d : eDj K [10200, 10201, 10202, 10203, 10204, 10205, 10206, 10209, 10210, 10211, 312] = true) (d' : eDj K' [1301, 1302, 1303, 1304, 1305, 1306, 1307, 1344, 1345, 1358] = true) : eG1 m MC' MR' := by
  unfold eG1 at *
  simp only [fun b => eF_at hC d 2 b 0 rfl, fun b => eF_at hC d 2 b 1 rfl, fun b => eF_at hC d 2 b 2 rfl, fun b => eF_at hC d 2 b 3 rfl, fun b => eF_at hC d 2 b 4 rfl, fun b => eF_at hC d 2 b 5 rfl, fun b => eF_at hC d 2 b 6 rfl, fun b => eF_at hC d 2 b 9 rfl, fun b => eF_at hC d 2 b 10 rfl, fun b => eF_at hC d 2 b 11 rfl, fun b j => eF_at hC d 312 b j rfl, fun b => eH_at hR d' 1301 0 b rfl, fun b => eH_at hR d' 1302 0 b rfl, fun b => eH_at hR d' 1303 0 b rfl, fun b => eH_at hR d' 1304 0 b rfl, fun b => eH_at hR d' 1305 0 b rfl, fun b => eH_at hR d' 1306 0 b rfl, fun b => eH_at hR d' 1307 0 b rfl, fun b => eH_at hR d' 1344 0 b rfl, fun b => eH_at hR d' 1345 0 b rfl, fun b => eH_at hR d' 1358 0 b rfl]
  exact h
theorem eG2_fr {m : Nat} {MC MC' : cM} {MR MR' : rM} (h : eG2 m MC MR) {K K' : List Nat} (hC : eF K MC MC') (hR : eH K' MR MR') (d : eDj K [10207, 10208] = true) (d' : eDj K' [1308, 1309] = true) : eG2 m MC' MR' := by
  unfold eG2 at *
  simp only [fun b => eF_at hC d 2 b 7 rfl, fun b => eF_at hC d 2 b 8 rfl, fun b => eH_at hR d' 1308 0 b rfl, fun b => eH_at hR d' 1309 0 b rfl]
  exact h
theorem eG3_fr {m : Nat} {MC MC' : cM} {MR MR' : rM} (h : eG3 m MC MR) {K K' : List Nat} (hC : eF K MC MC') (hR : eH K' MR MR') (hP : ∀ b k, cp MC' 901 b k = cp MC 901 b k) (d : eDj K [10802, 900, 10900, 10901, 10902, 10903, 10904, 10214] = true) (d' : eDj K' [1314, 1315, 1316, 1317] = true) : eG3 m MC' MR' := by
  have h9 : ∀ i s, s < 5 → cg MC' 9 i s = cg MC 9 i s := by
    intro i s hs
    match s, hs with
    | 0, _ => exact eF_at hC d 9 i 0 rfl
    | 1, _ => exact eF_at hC d 9 i 1 rfl
    | 2, _ => exact eF_at hC d 9 i 2 rfl
    | 3, _ => exact eF_at hC d 9 i 3 rfl
    | 4, _ => exact eF_at hC d 9 i 4 rfl
  have h92 := fun i => h9 i 2 (by decide)
  have h93 := fun i => h9 i 3 (by decide)
  have h94 := fun i => h9 i 4 (by decide)
  have h82 := fun b => eF_at hC d 8 b 2 rfl
  have h900 := fun b k => eF_at hC d 900 b k rfl
  have h214 := fun b => eF_at hC d 2 b 14 rfl
  have r1 := fun b => eH_at hR d' 1314 0 b rfl
  have r2 := fun b => eH_at hR d' 1315 0 b rfl
  have r3 := fun b => eH_at hR d' 1316 0 b rfl
  have r4 := fun b => eH_at hR d' 1317 0 b rfl
  have e1 : eM1 MC' = eM1 MC := by funext b; unfold eM1; rw [h214, h92]
  have e2 : eM2 MC' = eM2 MC := by funext b k; unfold eM2; rw [h900, hP, h92]
  have e3 : eM3 MC' = eM3 MC := by funext b; unfold eM3; rw [h82, e2]
  have eE : ∀ b k, eEn b k MC MR → eEn b k MC' MR' := by
    intro b k hh
    unfold eEn at *
    simp only [h900, hP, h92, r2]
    rcases hh with hh | ⟨a1, a2, a3, a4⟩
    · exact .inl hh
    · exact .inr ⟨a1, a2, a3, fun s hs => by rw [h9 _ s hs]; exact a4 s hs⟩
  obtain ⟨g1, g2, g3, g4, g5, g6, g7, g8, g9⟩ := h
  refine ⟨?_, ?_, ?_, ?_, ?_, ?_, ?_, ?_, ?_⟩
  · intro b hb
    obtain ⟨q, q1, q2, q3, q4⟩ := g1 b hb
    exact ⟨q, q1, by rw [h82]; exact q2, by rw [r1]; exact q3, fun k hk => eE b k (q4 k hk)⟩
  · unfold ePt at *; simp only [hP]; exact g2
  · intro b s hb hs; rw [h9 b s hs, r3]; exact g3 b s hb hs
  · intro s hs; rw [h9 50 s hs, r3]; exact g4 s hs
  · rw [h92]; exact g5
  · intro b hb; rw [h214, r4]; exact g6 b hb
  · intro b hb hm
    obtain ⟨a1, a2, a3⟩ := g7 b hb hm
    exact ⟨by rw [h82]; exact a1, by rw [h214]; exact a2, fun s hs => by rw [h9 b s hs]; exact a3 s hs⟩
  · intro i hi; unfold eSm; rw [h92, h93, h94]; exact g8 i hi
  · unfold eMs; rw [e1, e3, h92]; exact g9
theorem eG9_fr {MC MC' : cM} {MR MR' : rM} (h : eG9 MC MR) {K K' : List Nat} (hC : eF K MC MC') (hR : eH K' MR MR') (d : eDj K [10005, 10006, 103, 104] = true) (d' : eDj K' [11218, 1319, 11220, 1321] = true) : eG9 MC' MR' := by
  unfold eG9 at *
  simp only [eF_at hC d 0 0 5 rfl, eF_at hC d 0 0 6 rfl, fun j => eF_at hC d 103 0 j rfl, fun j => eF_at hC d 104 0 j rfl, eH_at hR d' 12 0 18 rfl, eH_at hR d' 12 0 20 rfl, fun j => eH_at hR d' 1319 0 j rfl, fun j => eH_at hR d' 1321 0 j rfl]
  exact h
theorem eG4_fr {MC MC' : cM} {MR MR' : rM} (h : eG4 MC MR) {K K' : List Nat} (hC : eF K MC MC') (hR : eH K' MR MR') (d : eDj K [11001, 1100] = true) (d' : eDj K' [11228, 1329] = true) : eG4 MC' MR' := by
  unfold eG4 at *
  simp only [eF_at hC d 10 0 1 rfl, fun j => eF_at hC d 1100 0 j rfl, eH_at hR d' 12 0 28 rfl, fun j => eH_at hR d' 1329 0 j rfl]
  exact h
theorem eG5_fr {MC MC' : cM} {MR MR' : rM} (h : eG5 MC MR) {K K' : List Nat} (hC : eF K MC MC') (hR : eH K' MR MR') (d : eDj K [10750, 10751, 10752, 20803, 20804, 20805] = true) (d' : eDj K' [11240, 11241, 11242, 1343] = true) : eG5 MC' MR' := by
  unfold eG5 eCd at *
  simp only [eF_at hC d 7 1 0 rfl, eF_at hC d 7 1 1 rfl, eF_at hC d 7 1 2 rfl, fun j => eF_at hC d 803 1 j rfl, fun j => eF_at hC d 804 1 j rfl, fun j => eF_at hC d 805 1 j rfl, eH_at hR d' 12 0 40 rfl, eH_at hR d' 12 0 41 rfl, eH_at hR d' 12 0 42 rfl, fun j => eH_at hR d' 1343 0 j rfl]
  exact h
theorem eG6_fr {m : Nat} {MC MC' : cM} {MR MR' : rM} (h : eG6 m MC MR) {K K' : List Nat} (hC : eF K MC MC') (hR : eH K' MR MR') (d : eDj K [10106, 201, 202, 203, 204, 205] = true) (d' : eDj K' [11251, 1352, 1353, 1354, 1355, 1356] = true) : eG6 m MC' MR' := by
  unfold eG6 at *
  simp only [eF_at hC d 1 0 6 rfl, fun j => eF_at hC d 201 0 j rfl, fun j => eF_at hC d 202 0 j rfl, fun j => eF_at hC d 203 0 j rfl, fun j => eF_at hC d 204 0 j rfl, fun j => eF_at hC d 205 0 j rfl, eH_at hR d' 12 0 51 rfl, fun j => eH_at hR d' 1352 0 j rfl, fun j => eH_at hR d' 1353 0 j rfl, fun j => eH_at hR d' 1354 0 j rfl, fun j => eH_at hR d' 1355 0 j rfl, fun j => eH_at hR d' 1356 0 j rfl]
  exact h
theorem eG7_fr {n m : Nat} {MC MC' : cM} {MR MR' : rM} (h : eG7 n m MC MR) {K K' : List Nat} (hC : eF K MC MC') (hR : eH K' MR MR') (d : eDj K [10601, 10602, 10603, 10216, 10218, 317] = true) (d' : eDj K' [11259, 11260, 11261, 1362, 1364, 1366] = true) : eG7 n m MC' MR' := by
  unfold eG7 at *
  simp only [eF_at hC d 6 0 1 rfl, eF_at hC d 6 0 2 rfl, eF_at hC d 6 0 3 rfl, fun b => eF_at hC d 2 b 16 rfl, fun b => eF_at hC d 2 b 18 rfl, fun b j => eF_at hC d 317 b j rfl, eH_at hR d' 12 0 59 rfl, eH_at hR d' 12 0 60 rfl, eH_at hR d' 12 0 61 rfl, fun j => eH_at hR d' 1362 0 j rfl, fun j => eH_at hR d' 1364 0 j rfl, fun j => eH_at hR d' 1366 0 j rfl]
  exact h
theorem eG8_fr {MC MC' : cM} {MR MR' : rM} (h : eG8 MC MR) {K K' : List Nat} (hC : eF K MC MC') (hR : eH K' MR MR') (hP : cp MC' 4 0 8 = cp MC 4 0 8 ∧ cp MC' 4 0 9 = cp MC 4 0 9) (d : eDj K [10401, 10402, 503, 504, 505] = true) (d' : eDj K' [11267, 11271, 1368, 1369, 1370] = true) : eG8 MC' MR' := by
  unfold eG8 at *
  simp only [hP.1, hP.2, eF_at hC d 4 0 1 rfl, eF_at hC d 4 0 2 rfl, fun j => eF_at hC d 503 0 j rfl, fun j => eF_at hC d 504 0 j rfl, fun j => eF_at hC d 505 0 j rfl, eH_at hR d' 12 0 67 rfl, eH_at hR d' 12 0 71 rfl, fun j => eH_at hR d' 1368 0 j rfl, fun j => eH_at hR d' 1369 0 j rfl, fun j => eH_at hR d' 1370 0 j rfl]
  exact h
theorem eG7_mono {n n' m : Nat} {MC : cM} {MR : rM} (h : eG7 n m MC MR) (hn : n ≤ n') : eG7 n' m MC MR := by
  obtain ⟨⟨pn, ps, h1, h2⟩, h3⟩ := h
  exact ⟨⟨pn, ps, by omega, h2⟩, h3⟩
/-- one call: both answer alike and stand in the relation behind it -/
def eO (n : Nat) (o : Option (Int32 × cM)) (o' : Option (Int32 × rM)) : Prop := ∃ (r : Int32) (MC : cM) (MR : rM), o = some (r, MC) ∧ o' = some (r, MR) ∧ eRel (n + 1) MC MR
theorem eO_same {n : Nat} {r : Int32} {MC : cM} {MR : rM} (h : eRel n MC MR) : eO n (some (r, MC)) (some (r, MR)) := by
  obtain ⟨m, t, a1, a2, a3, a4, a5, a6, a7, a8, a9, a10, a11⟩ := h
  exact ⟨r, MC, MR, rfl, rfl, m, t, a1, a2, a3, a4, a5, a6, a7, a8, a9, eG7_mono a10 (by omega), a11⟩
