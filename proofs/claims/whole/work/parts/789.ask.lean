/-! ask, the class -/
theorem clear9_c {i : Nat} (hi : i < 51) (MC : cM) : ∃ MC', m9_clear i MC = some MC' ∧ eF [10900, 10901, 10902, 10903, 10904] MC MC' ∧ MC'.2 = MC.2 ∧ (∀ s, s < 5 → cg MC' 9 i s = 0) ∧ ∀ j s, j ≠ i → cg MC' 9 j s = cg MC 9 j s := by
  refine ⟨cs (cs (cs (cs (cs MC 9 i 0 0) 9 i 1 0) 9 i 2 0) 9 i 3 0) 9 i 4 0, ?_, (by repeat (first | exact eF_refl | refine eF_cs ?_ rfl)), rfl, ?_, ?_⟩
  · unfold m9_clear
    simp only [blt_t hi, zbd_s, zbv_s, zgd_t, Bool.and_true, Bool.true_and, Bool.and_self, if_true, if_false, e_01, eq_self, Bool.false_eq_true]
  · intro s hs
    have : s = 0 ∨ s = 1 ∨ s = 2 ∨ s = 3 ∨ s = 4 := by omega
    rcases this with rfl | rfl | rfl | rfl | rfl <;> simp [cg_cs]
  · intro j s hj
    simp only [cg_cs]
    rw [if_neg (fun h => hj h.2.1), if_neg (fun h => hj h.2.1), if_neg (fun h => hj h.2.1), if_neg (fun h => hj h.2.1), if_neg (fun h => hj h.2.1)]
/-- box b has forgotten its sums; q stood in its row -/
def eFg (b q q' : Nat) (MC MC' : cM) : Prop := q' ≤ q ∧ (∀ k i s, ¬ (k = 901 ∧ i = b) → cp MC' k i s = cp MC k i s) ∧ (∀ i, i ≠ b → cg MC' 8 i 2 = cg MC 8 i 2 ∧ cg MC' 2 i 14 = cg MC 2 i 14 ∧ (∀ k, cg MC' 900 i k = cg MC 900 i k) ∧ ∀ s, cg MC' 9 i s = cg MC 9 i s) ∧ cg MC' 2 b 14 = 0 ∧ (∀ s, s < 5 → cg MC' 9 b s = 0) ∧ cg MC' 8 b 2 = nI q' ∧ (∀ k, k < q' → cg MC' 900 b k ≠ -1) ∧ eCmp (fun k => cg MC' 900 b k) q' = eCmp (fun k => cg MC 900 b k) q ∧ ePb b MC'
def eKF : List Nat := [10802, 900, 10900, 10901, 10902, 10903, 10904, 10214]
theorem forget_c {b q : Nat} {MC : cM} (hb : b < 10) (hq : q ≤ 4) (h2 : cg MC 8 b 2 = nI q) (hP : ePb b MC) : ∃ MC' q', m2_forgetSums b MC = some (nI (q - q'), MC') ∧ eF eKF MC MC' ∧ eFg b q q' MC MC' := by
  obtain ⟨M1, a1, a2, a3, a4, a5⟩ := clear9_c (show b < 51 by omega) MC
  obtain ⟨M2, hM2⟩ : ∃ N, N = cs M1 2 b 14 0 := ⟨_, rfl⟩
  have f2 : eF [10214] M1 M2 := by rw [hM2]; exact (by repeat (first | exact eF_refl | refine eF_cs ?_ rfl))
  have p2 : M2.2 = MC.2 := by rw [hM2]; exact a3
  have cp2 : ∀ k i s, cp M2 k i s = cp MC k i s := fun k i s => by unfold cp; rw [p2]
  obtain ⟨M3, q', b1, b2, b3, b4, b5, b6, b7⟩ := dropSums_c (MC := M2) hb hq (by rw [f2 8 b 2 rfl, a2 8 b 2 rfl, h2]) (by
    unfold ePb at *
    simp only [cp2]; exact hP)
  refine ⟨M3, q', ?_, eF_trans (eF_mono a2 rfl) (eF_trans (eF_mono f2 rfl) (eF_mono b3.1 rfl)), b2, fun k i s hk => (b3.2.1 k i s hk).trans (cp2 k i s), ?_, ?_, ?_, b4, b5, ?_, b7⟩
  · unfold m2_forgetSums
    simp only [blt_t hb, blt_t (show b < 51 by omega), a1, zbd_s, zbv_s, zgd_t, Bool.and_true, Bool.true_and, Bool.and_self, if_true, if_false, e_01, eq_self, Bool.false_eq_true]
    rw [← hM2, b1, zbd_s]
  · intro i hi
    refine ⟨?_, ?_, fun k => ?_, fun s => ?_⟩
    · rw [(b3.2.2 i hi).1, f2 8 i 2 rfl, a2 8 i 2 rfl]
    · rw [b3.1 2 i 14 rfl, hM2, cg_cs, if_neg (fun h => hi h.2.1), a2 2 i 14 rfl]
    · rw [(b3.2.2 i hi).2 k, f2 900 i k rfl, a2 900 i k rfl]
    · have : cg M3 9 i s = cg M2 9 i s := by
        refine b3.1 9 i s ?_
        show [10802, 900].contains (10000 + 100 * 9 + s) = false
        simp; omega
      rw [this, hM2, cg_cs, if_neg (by omega), a5 i s hi]
  · rw [b3.1 2 b 14 rfl, hM2, cg_cs, if_pos ⟨rfl, rfl, rfl⟩]
  · intro s hs
    have : cg M3 9 b s = cg M2 9 b s := by
      refine b3.1 9 b s ?_
      show [10802, 900].contains (10000 + 100 * 9 + s) = false
      simp; omega
    rw [this, hM2, cg_cs, if_neg (by omega), a4 s hs]
  · rw [b6]
    exact eCmp_congr (fun k _ => by rw [f2 900 b k rfl, a2 900 b k rfl])
/-- box b's row, of q places, is without its sums -/
def eFw (b q q' : Nat) (MC MC' : cM) : Prop := q' ≤ q ∧ cg MC' 8 b 2 = nI q' ∧ (∀ k, k < q' → cg MC' 900 b k ≠ -1) ∧ eCmp (fun k => cg MC' 900 b k) q' = eCmp (fun k => cg MC 900 b k) q
/-- both without sums: the row stands -/
theorem row_join {b q q' : Nat} {MC MC' : cM} {MR MR' : rM} (hr : ∀ k : Nat, k < q → eEn b k MC MR) (hq : q ≤ 4) (h : eFw b q q' MC MC') (w : eWo b q MR MR') : eRow b MC' MR' ∧ eM3 MC' b = 0 ∧ q' = (eCmp (eRw MR b) q).length := by
  obtain ⟨f1, f6, f7, f8⟩ := h
  obtain ⟨w1, w2⟩ := w
  have hc : eCmp (fun k => cg MC 900 b k) q = eCmp (eRw MR b) q := eCmp_congr (fun k hk => by
    unfold eRw
    rcases hr k hk with ⟨h1, h2, h3⟩ | ⟨h1, h2, -⟩
    · rw [if_pos h1]; exact h2
    · rw [if_neg (by rw [h1]; decide)]; exact h2)
  obtain ⟨l1, l2⟩ := eCmp_all f7
  rw [f8, hc] at l1 l2
  refine ⟨⟨q', by omega, f6, by rw [w1, l1], fun k hk => .inl ?_⟩, ?_, l1.symm⟩
  · obtain ⟨v1, v2⟩ := w2 k (by omega)
    have v3 := l2 k hk
    rw [v2] at v3
    refine ⟨v1, (Option.some.inj v3).symm, ?_⟩
    have h4 : (eCmp (fun k => cg MC 900 b k) q)[k]? = some (cg MC' 900 b k) := by rw [hc]; exact l2 k hk
    obtain ⟨n1, j, n2, n3⟩ := eCmp_ne k _ h4
    rcases hr j n2 with ⟨h1, h2, h3⟩ | ⟨h1, h2, -⟩
    · rw [← n3]; exact h3
    · exact absurd (n3.symm.trans h2) n1
  · unfold eM3
    rw [f6, ex_nI (by omega)]
    exact eSig_0 (fun k hk => by unfold eM2; rw [if_neg (f7 k hk)])
theorem copy7_c {c : Nat} {MC : cM} (hc : c ≤ 8) (hb : ∀ k, k < c → (cg MC 803 0 k = 0 ∨ cg MC 803 0 k = 1) ∧ (cg MC 804 0 k = 0 ∨ cg MC 804 0 k = 1)) : ∃ MC', m7_copy 1 0 MC = some MC' ∧ eF [10750, 10751, 10752, 20803, 20804, 20805] MC MC' ∧ MC'.2 = MC.2 ∧ (∀ s, s < 3 → cg MC' 7 1 s = cg MC 7 0 s) ∧ ∀ k, k < c → cg MC' 803 1 k = cg MC 803 0 k ∧ cg MC' 804 1 k = cg MC 804 0 k ∧ cg MC' 805 1 k = cg MC 805 0 k := by
  unfold m7_copy
  simp only [show Nat.blt 0 2 = true from rfl, show Nat.blt 1 2 = true from rfl, zbd_s, zbv_s, zgd_t, Bool.and_true, Bool.true_and, Bool.and_self, if_true, if_false, e_01, eq_self, Bool.false_eq_true]
  obtain ⟨M0, hM0⟩ : ∃ N, N = (cs (cs (cs MC 7 1 0 (cg MC 7 0 0)) 7 1 1 (cg (cs MC 7 1 0 (cg MC 7 0 0)) 7 0 1)) 7 1 2 (cg (cs (cs MC 7 1 0 (cg MC 7 0 0)) 7 1 1 (cg (cs MC 7 1 0 (cg MC 7 0 0)) 7 0 1)) 7 0 2)) := ⟨_, rfl⟩
  have f0 : eF [10750, 10751, 10752] MC M0 := by rw [hM0]; exact (by repeat (first | exact eF_refl | refine eF_cs ?_ rfl))
  have s0 : ∀ s, s < 3 → cg M0 7 1 s = cg MC 7 0 s := by
    intro s hs
    have : s = 0 ∨ s = 1 ∨ s = 2 := by omega
    rw [hM0]
    rcases this with rfl | rfl | rfl <;> simp [cg_cs]
  have p0 : M0.2 = MC.2 := by rw [hM0]; rfl
  rw [← hM0]
  refine eloop (σ := cM) (fun f k M => ∃ MC', m7_copy_26 f 1 0 (nI k) M = some MC' ∧ eF [10750, 10751, 10752, 20803, 20804, 20805] MC MC' ∧ MC'.2 = MC.2 ∧ (∀ s, s < 3 → cg MC' 7 1 s = cg MC 7 0 s) ∧ ∀ k, k < c → cg MC' 803 1 k = cg MC 803 0 k ∧ cg MC' 804 1 k = cg MC 804 0 k ∧ cg MC' 805 1 k = cg MC 805 0 k) (fun j M => eF [20803, 20804, 20805] M0 M ∧ M.2 = MC.2 ∧ ∀ k, k < c → k < j → cg M 803 1 k = cg MC 803 0 k ∧ cg M 804 1 k = cg MC 804 0 k ∧ cg M 805 1 k = cg MC 805 0 k) (m := 8) (k0 := 0) (by omega) ?_ ?_ (zfu_gt (by omega)) ⟨eF_refl, p0, fun k _ hk => absurd hk (by omega)⟩
  · rintro f M ⟨i1, i2, i3⟩
    refine ⟨M, ?_, eF_trans (eF_mono f0 rfl) (eF_mono i1 rfl), i2, fun s hs => ?_, fun k hk => i3 k hk (by omega)⟩
    · rw [m7_copy_26, if_pos (by decide)]
    · have : s = 0 ∨ s = 1 ∨ s = 2 := by omega
      rw [← s0 s hs]
      rcases this with rfl | rfl | rfl <;> exact i1 7 1 _ rfl
  · rintro f j M hj0 hj ⟨i1, i2, i3⟩ ih
    rw [m7_copy_26]
    simp only [show Nat.blt 0 2 = true from rfl, show Nat.blt 1 2 = true from rfl, show ((8 : Int32) ≤ nI j) = False from eq_false (by rw [show (8 : Int32) = nI 8 from rfl, eI_le (by omega) (by omega)]; omega), ezin_nI (show j < 8 by omega) (show 8 < 2 ^ 31 by decide), ex_nI (show j < 2 ^ 31 by omega), zbd_s, zbv_s, zgd_t, Bool.and_true, Bool.true_and, Bool.and_self, if_true, if_false, e_01, eq_self, Bool.false_eq_true]
    unfold m7_copy_68
    rw [ep1]
    refine ih _ ⟨?_, i2, fun k hk hkj => ?_⟩
    · exact eF_cs (eF_cs (eF_cs i1 rfl) rfl) rfl
    · have z3 : cg M 803 0 k = cg MC 803 0 k := by rw [i1 803 0 k rfl, f0 803 0 k rfl]
      have z4 : cg M 804 0 k = cg MC 804 0 k := by rw [i1 804 0 k rfl, f0 804 0 k rfl]
      have z5 : cg M 805 0 k = cg MC 805 0 k := by rw [i1 805 0 k rfl, f0 805 0 k rfl]
      by_cases hkj' : k = j
      · subst hkj'
        obtain ⟨b3, b4⟩ := hb k hk
        have n3 : vp_nar .boolean (cg MC 803 0 k) = cg MC 803 0 k := by rcases b3 with h | h <;> rw [h] <;> rfl
        have n4 : vp_nar .boolean (cg MC 804 0 k) = cg MC 804 0 k := by rcases b4 with h | h <;> rw [h] <;> rfl
        simp [cg_cs, z3, z4, z5, n3, n4]
      · simp only [cg_cs]
        simp only [hkj', and_false, if_false]
        obtain ⟨y1, y2, y3⟩ := i3 k hk (by omega)
        simp [y1, y2, y3]
