theorem e_01 : ((1 : Int32) = 0) = False := by decide
theorem out_y {x lo hi : Int32} {M : cM} (h : ¬ (lo ≤ x ∧ x ≤ hi)) : m11_outside x lo hi M = some (1, M) := by
  unfold m11_outside
  by_cases h1 : x < lo
  · simp [h1]
  · have h2 : hi < x := by
      refine Int32.not_le.mp (fun hc => h ⟨Int32.not_lt.mp h1, hc⟩)
    simp [h1, h2]
theorem out_n {x lo hi : Int32} {M : cM} (h1 : lo ≤ x) (h2 : x ≤ hi) : m11_outside x lo hi M = some (0, M) := by
  unfold m11_outside
  simp [Int32.not_lt.mpr h1, Int32.not_lt.mpr h2]
theorem in_n {x lo hi : Int32} {M : rM} (h : ¬ (lo ≤ x ∧ x ≤ hi)) : m12_in x lo hi M = some (0, M) := by
  unfold m12_in
  by_cases h1 : x < lo
  · simp [h1]
  · have h2 : hi < x := by
      refine Int32.not_le.mp (fun hc => h ⟨Int32.not_lt.mp h1, hc⟩)
    simp [h1, h2]
theorem in_y {x lo hi : Int32} {M : rM} (h1 : lo ≤ x) (h2 : x ≤ hi) : m12_in x lo hi M = some (1, M) := by
  unfold m12_in
  simp [Int32.not_lt.mpr h1, Int32.not_lt.mpr h2]
theorem kn_y {M : cM} {m b : Nat} (h : cg M 3 0 4 = nI m) (hm : m ≤ 10) (hb : b < m) : m3_knows (nI b) M = some (1, M) := by
  unfold m3_knows
  rw [h, if_neg, if_neg]
  · rw [eI_le (by omega) (by omega)]; omega
  · rw [show (0 : Int32) = nI 0 from rfl, eI_lt (by omega) (by omega)]; omega
theorem kn_n {M : cM} {m : Nat} {x : Int32} (h : cg M 3 0 4 = nI m) (hx : ¬ (0 ≤ x ∧ x < nI m)) : m3_knows x M = some (0, M) := by
  unfold m3_knows
  rw [h]
  by_cases h1 : x < 0
  · simp [h1]
  · have h2 : nI m ≤ x := Int32.not_lt.mp (fun hc => hx ⟨Int32.not_lt.mp h1, hc⟩)
    simp [h1, h2]
theorem of_y {M : cM} {b : Nat} (hb : b < 10) : m3_of (nI b) M = some (b, M) := by
  unfold m3_of m3_of_19
  rw [if_neg, if_neg, ezin_nI hb (by omega), ex_nI (by omega)]
  · rfl
  · rw [show (10 : Int32) = nI 10 from rfl, eI_le (by omega) (by omega)]; omega
  · rw [show (0 : Int32) = nI 0 from rfl, eI_lt (by omega) (by omega)]; omega
theorem ib_y {M : rM} {m b : Nat} (h : rg M 12 0 0 = nI m) (hm : m ≤ 10) (hb : b < m) : m12_isBox (nI b) M = some (1, M) := by
  unfold m12_isBox
  have e : nI m - (1 : Int32) = nI (m - 1) := by
    obtain ⟨k, rfl⟩ : ∃ k, m = k + 1 := ⟨m - 1, by omega⟩
    rw [← eI_add]
    show nI k + 1 - 1 = nI k
    exact Int32.add_sub_cancel _ _
  rw [h, e, in_y]
  · rfl
  · rw [show (0 : Int32) = nI 0 from rfl, eI_le (by omega) (by omega)]; omega
  · rw [eI_le (by omega) (by omega)]; omega
theorem ib_n {M : rM} {m : Nat} {x : Int32} (h : rg M 12 0 0 = nI m) (hm : m ≤ 10) (hx : ¬ (0 ≤ x ∧ x < nI m)) : m12_isBox x M = some (0, M) := by
  unfold m12_isBox
  rw [h, in_n]
  · rfl
  · rintro ⟨a1, a2⟩
    refine hx ⟨a1, ?_⟩
    have hm' : nI m ≤ 10 := by rw [show (10 : Int32) = nI 10 from rfl, eI_le (by omega) (by omega)]; exact hm
    have hm0 : 0 ≤ nI m := by rw [show (0 : Int32) = nI 0 from rfl, eI_le (by omega) (by omega)]; omega
    lia
theorem isIn_e (s x : Int32) (M : rM) : m12_isIn s x M = some (if zshr s x &&& 1 = 1 then 1 else 0, M) := by
  unfold m12_isIn; split <;> rfl
/-- a call's first word is a box, or it isn't -/
theorem e_bx (x : Int32) (m : Nat) (hm : m ≤ 10) : (¬ (0 ≤ x ∧ x < nI m)) ∨ ∃ b : Nat, b < m ∧ x = nI b := by
  by_cases h : 0 ≤ x ∧ x < nI m
  · exact .inr (eI_ofb h.1 h.2 (by omega))
  · exact .inl h
