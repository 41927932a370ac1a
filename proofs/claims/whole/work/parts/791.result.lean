/-! result -/
theorem comm_e (MC : cM) (MR : rM) (d : Nat) : ∀ (a b x4 fC fR : Nat), b ≤ d → a < 2 ^ 31 → b < 2 ^ 31 → (0 < a ∨ 0 < b) → x4 + d < 64 → d < fC → d < fR → ∃ g, 1 ≤ g ∧ g < 2 ^ 31 ∧ m7_commonPart_7 fC (nI a) (nI b) (nI x4) MC = some (nI g, MC) ∧ m12_common_4 fR (nI a) (nI b) MR = some (nI g, MR) := by
  induction d with
  | zero =>
    intro a b x4 fC fR hb ha hb2 hab hx hC hR
    obtain ⟨fC, rfl⟩ : ∃ f, fC = f + 1 := ⟨fC - 1, by omega⟩
    obtain ⟨fR, rfl⟩ : ∃ f, fR = f + 1 := ⟨fR - 1, by omega⟩
    have hb0 : b = 0 := by omega
    subst hb0
    have c64 : ¬ (64 : Int32) ≤ nI x4 := fun h => by rw [show (64 : Int32) = nI 64 from rfl, eI_le (by omega) (by omega)] at h; omega
    have c0 : ¬ nI a ≤ 0 := fun h => by rw [show (0 : Int32) = nI 0 from rfl, eI_le (by omega) (by omega)] at h; omega
    refine ⟨a, by omega, ha, ?_, ?_⟩
    · rw [m7_commonPart_7, if_neg c64, if_pos (show nI 0 = (0 : Int32) from rfl), m7_commonPart_34, if_neg c0]
    · rw [m12_common_4, if_pos (show nI 0 = (0 : Int32) from rfl)]
  | succ d ih =>
    intro a b x4 fC fR hb ha hb2 hab hx hC hR
    obtain ⟨fC, rfl⟩ : ∃ f, fC = f + 1 := ⟨fC - 1, by omega⟩
    obtain ⟨fR, rfl⟩ : ∃ f, fR = f + 1 := ⟨fR - 1, by omega⟩
    have c64 : ¬ (64 : Int32) ≤ nI x4 := fun h => by rw [show (64 : Int32) = nI 64 from rfl, eI_le (by omega) (by omega)] at h; omega
    by_cases hb0 : b = 0
    · subst hb0
      have c0 : ¬ nI a ≤ 0 := fun h => by rw [show (0 : Int32) = nI 0 from rfl, eI_le (by omega) (by omega)] at h; omega
      refine ⟨a, by omega, ha, ?_, ?_⟩
      · rw [m7_commonPart_7, if_neg c64, if_pos (show nI 0 = (0 : Int32) from rfl), m7_commonPart_34, if_neg c0]
      · rw [m12_common_4, if_pos (show nI 0 = (0 : Int32) from rfl)]
    · have cb : ¬ nI b = 0 := fun h => by rw [show (0 : Int32) = nI 0 from rfl, eI_inj (by omega) (by omega)] at h; omega
      have hz : znz (nI b) = true := by unfold znz; rw [decide_eq_false cb]; rfl
      have hm := Nat.mod_lt a (show b > 0 by omega)
      obtain ⟨g, g1, g2, g3, g4⟩ := ih b (a % b) (x4 + 1) fC fR (by omega) hb2 (by omega) (by omega) (by omega) (by omega) (by omega)
      refine ⟨g, g1, g2, ?_, ?_⟩
      · rw [m7_commonPart_7, if_neg c64, if_neg cb, hz, Bool.and_true, zgd_t, zrem_nI ha hb2 (by omega), ep1]; exact g3
      · rw [m12_common_4, if_neg cb, hz, Bool.and_true, zgd_t, zrem_nI ha hb2 (by omega)]; exact g4
