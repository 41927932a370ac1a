theorem law_true {L : Nat} (hL : L ≤ 3072) (xs : Nat → Int32) : ∃ f, mLw L xs f 0 cM0 rM0 = true := by
  sorry
