/-! rows, some of whose first places are being said -/
/-- place k of box b is what stands at a in the reference's row K -/
def eEnA (K a b k : Nat) (MC : cM) (MR : rM) : Prop := (rg MR K 0 a = 0 ∧ cg MC 900 b k = rg MR K 0 (a + 1) ∧ 0 ≤ cg MC 900 b k) ∨ (rg MR K 0 a = 1 ∧ cg MC 900 b k = -1 ∧ cg MC 9 (cp MC 901 b k) 2 ≠ 0 ∧ ∀ s : Nat, s < 5 → cg MC 9 (cp MC 901 b k) s = rg MR K 0 (a + 1 + s))
theorem eEnA_eq {K a K' a' b k b' k' : Nat} {MC MC' : cM} {MR MR' : rM} (h : eEnA K a b k MC MR) (h1 : cg MC' 900 b' k' = cg MC 900 b k) (h2 : cg MC 900 b k = -1 → ∀ s, s < 5 → cg MC' 9 (cp MC' 901 b' k') s = cg MC 9 (cp MC 901 b k) s) (h3 : ∀ s, s < 6 → rg MR' K' 0 (a' + s) = rg MR K 0 (a + s)) : eEnA K' a' b' k' MC' MR' := by
  have h0 : rg MR' K' 0 a' = rg MR K 0 a := h3 0 (by omega)
  have h31 : rg MR' K' 0 (a' + 1) = rg MR K 0 (a + 1) := h3 1 (by omega)
  rcases h with ⟨c1, c2, c3⟩ | ⟨c1, c2, c3, c4⟩
  · exact .inl ⟨h0.trans c1, by rw [h1, c2, h31], by rw [h1]; exact c3⟩
  · refine .inr ⟨h0.trans c1, by rw [h1, c2], by rw [h2 c2 2 (by omega)]; exact c3, fun s hs => ?_⟩
    rw [h2 c2 s hs, c4 s hs]
    have := h3 (s + 1) (by omega)
    rw [show a' + 1 + s = a' + (s + 1) by omega, show a + 1 + s = a + (s + 1) by omega, this]
def eRx (sp : Bool) (b : Nat) (MC : cM) (MR : rM) : Prop := (sp = false → eRow b MC MR) ∧ (sp = true → ∃ q : Nat, q ≤ 3 ∧ cg MC 8 b 2 = nI (q + 1) ∧ rg MR 1314 0 b = nI q ∧ eEnA 1325 (6 * b) b 0 MC MR ∧ ∀ k : Nat, k < q → eEnA 1315 (24 * b + 6 * k) b (k + 1) MC MR)
def eG3y (sp : Nat → Bool) (m : Nat) (MC : cM) (MR : rM) : Prop := (∀ b : Nat, b < 10 → eRx (sp b) b MC MR) ∧ ePt MC ∧ (∀ b s : Nat, b < 10 → s < 5 → cg MC 9 b s = rg MR 1316 0 (5 * b + s)) ∧ (∀ s : Nat, s < 5 → cg MC 9 50 s = rg MR 1316 0 (50 + s)) ∧ cg MC 9 0 2 = 0 ∧ (∀ b : Nat, b < 10 → cg MC 2 b 14 = rg MR 1317 0 b ∧ (rg MR 1317 0 b = 0 ∨ rg MR 1317 0 b = 1)) ∧ (∀ b : Nat, b < 10 → m ≤ b → cg MC 8 b 2 = 0 ∧ cg MC 2 b 14 = 0 ∧ ∀ s : Nat, s < 5 → cg MC 9 b s = 0) ∧ (∀ i : Nat, i < 51 → eSm i MC)
theorem eG3_y {m : Nat} {MC : cM} {MR : rM} : eG3 m MC MR ↔ eG3y (fun _ => false) m MC MR ∧ eMs MC ≤ 10 := by
  constructor
  · rintro ⟨h1, h2, h3, h4, h5, h6, h7, h8, h9⟩
    exact ⟨⟨fun b hb => ⟨fun _ => h1 b hb, fun h => by cases h⟩, h2, h3, h4, h5, h6, h7, h8⟩, h9⟩
  · rintro ⟨⟨h1, h2, h3, h4, h5, h6, h7, h8⟩, h9⟩
    exact ⟨fun b hb => (h1 b hb).1 rfl, h2, h3, h4, h5, h6, h7, h8, h9⟩
theorem eG3y_sp {sp sp' : Nat → Bool} {m : Nat} {MC : cM} {MR : rM} (h : eG3y sp m MC MR) (hs : ∀ b, b < 10 → sp' b = sp b) : eG3y sp' m MC MR := by
  obtain ⟨h1, h2⟩ := h
  exact ⟨fun b hb => by rw [hs b hb]; exact h1 b hb, h2⟩
theorem cg9_fr {K : List Nat} {MC MC' : cM} (hC : eF K MC MC') (d : eDj K [10900, 10901, 10902, 10903, 10904] = true) : ∀ i s, s < 5 → cg MC' 9 i s = cg MC 9 i s := by
  intro i s hs
  match s, hs with
  | 0, _ => exact eF_at hC d 9 i 0 rfl
  | 1, _ => exact eF_at hC d 9 i 1 rfl
  | 2, _ => exact eF_at hC d 9 i 2 rfl
  | 3, _ => exact eF_at hC d 9 i 3 rfl
  | 4, _ => exact eF_at hC d 9 i 4 rfl
theorem eSm_eq {i : Nat} {M M' : cM} (h : eSm i M) (h9 : ∀ s, s < 5 → cg M' 9 i s = cg M 9 i s) : eSm i M' := by
  obtain ⟨mn, al, s1, s2, s3, s4, s5⟩ := h
  exact ⟨mn, al, s1, s2, by rw [h9 2 (by omega), s3], by rw [h9 3 (by omega), s4], fun h => by rw [h9 4 (by omega), s5 h]⟩
theorem eSm_cp {i j : Nat} {M M' : cM} (h : eSm i M) (h9 : ∀ s, s < 5 → cg M' 9 j s = cg M 9 i s) : eSm j M' := by
  obtain ⟨mn, al, s1, s2, s3, s4, s5⟩ := h
  exact ⟨mn, al, s1, s2, by rw [h9 2 (by omega), s3], by rw [h9 3 (by omega), s4], fun h => by rw [h9 4 (by omega), s5 h]⟩
theorem eG3y_fr {sp : Nat → Bool} {m : Nat} {MC MC' : cM} {MR MR' : rM} (h : eG3y sp m MC MR) {K K' : List Nat} (hC : eF K MC MC') (hR : eH K' MR MR') (hP : MC'.2 = MC.2) (d : eDj K [10802, 900, 10900, 10901, 10902, 10903, 10904, 10214] = true) (d9 : eDj K [10900, 10901, 10902, 10903, 10904] = true) (d' : eDj K' [1314, 1315, 1316, 1317, 1325] = true) : eG3y sp m MC' MR' := by
  have h9 := cg9_fr hC d9
  have hp : ∀ kk i s, cp MC' kk i s = cp MC kk i s := fun kk i s => by unfold cp; rw [hP]
  obtain ⟨r1, r2, r3, r4, r5, r6, r7, r8⟩ := h
  refine ⟨fun b hb => ?_, ?_, fun b s hb hs => ?_, fun s hs => ?_, ?_, fun b hb => ?_, fun b hb hmb => ?_, fun i hi => eSm_eq (r8 i hi) (h9 i)⟩
  · refine ⟨fun hs => ?_, fun hs => ?_⟩
    · obtain ⟨q, q1, q2, q3, q4⟩ := (r1 b hb).1 hs
      refine ⟨q, q1, by rw [eF_at hC d 8 b 2 rfl, q2], by rw [eH_at hR d' 1314 0 b rfl, q3], fun k hk => ?_⟩
      exact eEnA_eq (K := 1315) (a := 24 * b + 6 * k) (q4 k hk) (eF_at hC d 900 b k rfl) (fun _ s hs => by rw [hp, h9 _ s hs]) (fun s _ => eH_at hR d' 1315 0 _ rfl)
    · obtain ⟨q, q1, q2, q3, q4, q5⟩ := (r1 b hb).2 hs
      refine ⟨q, q1, by rw [eF_at hC d 8 b 2 rfl, q2], by rw [eH_at hR d' 1314 0 b rfl, q3], ?_, fun k hk => ?_⟩
      · exact eEnA_eq q4 (eF_at hC d 900 b 0 rfl) (fun _ s hs => by rw [hp, h9 _ s hs]) (fun s _ => eH_at hR d' 1325 0 _ rfl)
      · exact eEnA_eq (q5 k hk) (eF_at hC d 900 b _ rfl) (fun _ s hs => by rw [hp, h9 _ s hs]) (fun s _ => eH_at hR d' 1315 0 _ rfl)
  · unfold ePt; simp only [hp]; exact r2
  · rw [h9 b s hs, eH_at hR d' 1316 0 _ rfl]; exact r3 b s hb hs
  · rw [h9 50 s hs, eH_at hR d' 1316 0 _ rfl]; exact r4 s hs
  · rw [h9 0 2 (by omega)]; exact r5
  · rw [eF_at hC d 2 b 14 rfl, eH_at hR d' 1317 0 b rfl]; exact r6 b hb
  · obtain ⟨x1, x2, x3⟩ := r7 b hb hmb
    exact ⟨by rw [eF_at hC d 8 b 2 rfl, x1], by rw [eF_at hC d 2 b 14 rfl, x2], fun s hs => by rw [h9 b s hs, x3 s hs]⟩
theorem eMs_fr {MC MC' : cM} {K : List Nat} (hC : eF K MC MC') (hP : MC'.2 = MC.2) (d : eDj K [10802, 900, 10900, 10901, 10902, 10903, 10904, 10214] = true) : eMs MC' = eMs MC := by
  have hp : ∀ kk i s, cp MC' kk i s = cp MC kk i s := fun kk i s => by unfold cp; rw [hP]
  unfold eMs
  congr 1
  · congr 1
    · refine eSig_congr (fun b _ => ?_)
      unfold eM1
      rw [eF_at hC d 2 b 14 rfl, eF_at hC d 9 b 2 rfl]
    · refine eSig_congr (fun b _ => ?_)
      unfold eM3
      rw [eF_at hC d 8 b 2 rfl]
      refine eSig_congr (fun k _ => ?_)
      unfold eM2
      rw [eF_at hC d 900 b k rfl, hp, eF_at hC d 9 _ 2 rfl]
  · rw [eF_at hC d 9 50 2 rfl]
/-- a sum put behind a row -/
def ePu (b q j : Nat) (M M' : cM) : Prop := eF [900, 10802, 10900, 10901, 10902, 10903, 10904] M M' ∧ M'.2 = M.2 ∧ cg M' 8 b 2 = nI (q + 1) ∧ (∀ c, c ≠ b → cg M' 8 c 2 = cg M 8 c 2) ∧ (∀ c k, ¬ (c = b ∧ k = q) → cg M' 900 c k = cg M 900 c k) ∧ (∀ i s, i ≠ j → cg M' 9 i s = cg M 9 i s)
theorem addSum_c {b i q : Nat} {M : cM} (hb : b < 10) (hi : i < 51) (hq : q < 4) (h2 : cg M 8 b 2 = nI q) (hp : cp M 901 b q < 51) (hne : i ≠ cp M 901 b q) : ∃ M', m8_addSum b i M = some M' ∧ ePu b q (cp M 901 b q) M M' ∧ cg M' 900 b q = -1 ∧ ∀ s, s < 5 → cg M' 9 (cp M 901 b q) s = cg M 9 i s := by
  obtain ⟨M1, hM1⟩ : ∃ X, X = cs M 900 b q (-1) := ⟨_, rfl⟩
  have f1 : eF [900] M M1 := by rw [hM1]; exact (by repeat (first | exact eF_refl | refine eF_cs ?_ rfl))
  have o1 : M1.2 = M.2 := by rw [hM1]; rfl
  obtain ⟨M4, c1, c2, c3, c4, c5, c6, c7, c8, c9⟩ := copy9_c (i := cp M 901 b q) (j := i) hp hi hne M1
  have e8 : cg (cs M 900 b q (-1)) 8 b 2 = nI q := by rw [cg_cs, if_neg (by omega), h2]
  have e8' : cg M4 8 b 2 = nI q := by rw [c2 8 b 2 rfl, hM1, e8]
  have v1 : ∀ c k, cg M1 900 c k = if c = b ∧ k = q then -1 else cg M 900 c k := by
    intro c k
    rw [hM1, cg_cs]
    by_cases h : c = b ∧ k = q
    · rw [if_pos ⟨rfl, h.1, h.2⟩, if_pos h]
    · rw [if_neg (fun h' => h h'.2), if_neg h]
  refine ⟨cs M4 8 b 2 (nI (q + 1)), ?_, ⟨eF_cs (eF_trans (eF_mono f1 rfl) (eF_mono c2 rfl)) rfl, c3.trans o1, ?_, fun c hc => ?_, fun c k hck => ?_, fun i s his => ?_⟩, ?_, fun s hs => ?_⟩
  · unfold m8_addSum
    simp only [blt_t hb, full_c hb h2 (by omega), show (q = 4) = False from eq_false (by omega), h2, ezin_nI (show q < 4 by omega) (show 4 < 2 ^ 31 by decide), ex_nI (show q < 2 ^ 31 by omega), e8, cp_cs, blt_t hp, zbd_s, zbv_s, zgd_t, Bool.and_true, Bool.true_and, Bool.and_self, if_true, if_false, e_01, eq_self, Bool.false_eq_true]
    rw [← hM1, c1]
    simp only [blt_t hb, e8', ep1, zbd_s, zbv_s, zgd_t, Bool.and_true, Bool.true_and, Bool.and_self, if_true, if_false, e_01, eq_self, Bool.false_eq_true]
  · rw [cg_cs, if_pos ⟨rfl, rfl, rfl⟩]
  · rw [cg_cs, if_neg (fun h => hc h.2.1), c2 8 c 2 rfl]; exact f1 8 c 2 rfl
  · rw [cg_cs, if_neg (by omega), c2 900 c k rfl, v1, if_neg hck]
  · rw [cg_cs, if_neg (by omega), c4 i s his, hM1, cg_cs, if_neg (by omega)]
  · rw [cg_cs, if_neg (by omega), c2 900 b q rfl, v1, if_pos ⟨rfl, rfl⟩]
  · have z : ∀ s, cg M1 9 i s = cg M 9 i s := fun s => by rw [hM1, cg_cs, if_neg (by omega)]
    rw [cg_cs, if_neg (by omega)]
    match s, hs with
    | 0, _ => rw [c5, z]
    | 1, _ => rw [c6, z]
    | 2, _ => rw [c7, z]
    | 3, _ => rw [c8, z]
    | 4, _ => rw [c9, z]
theorem addWord_c {b q : Nat} {M : cM} (v : Int32) (hb : b < 10) (hq : q < 4) (h2 : cg M 8 b 2 = nI q) (j : Nat) : ∃ M', m8_addWord b v M = some M' ∧ ePu b q j M M' ∧ cg M' 900 b q = v ∧ ∀ i s, cg M' 9 i s = cg M 9 i s := by
  have e8 : cg (cs M 900 b q v) 8 b 2 = nI q := by rw [cg_cs, if_neg (by omega), h2]
  refine ⟨cs (cs M 900 b q v) 8 b 2 (nI (q + 1)), ?_, ⟨(by repeat (first | exact eF_refl | refine eF_cs ?_ rfl)), rfl, ?_, fun c hc => ?_, fun c k hck => ?_, fun i s _ => ?_⟩, ?_, fun i s => ?_⟩
  · unfold m8_addWord
    simp only [blt_t hb, full_c hb h2 (by omega), show (q = 4) = False from eq_false (by omega), h2, ezin_nI (show q < 4 by omega) (show 4 < 2 ^ 31 by decide), ex_nI (show q < 2 ^ 31 by omega), e8, ep1, zbd_s, zbv_s, zgd_t, Bool.and_true, Bool.true_and, Bool.and_self, if_true, if_false, e_01, eq_self, Bool.false_eq_true]
  · rw [cg_cs, if_pos ⟨rfl, rfl, rfl⟩]
  · rw [cg_cs, if_neg (fun h => hc h.2.1), cg_cs, if_neg (by omega)]
  · rw [cg_cs, if_neg (by omega), cg_cs, if_neg (fun h => hck h.2)]
  · rw [cg_cs, if_neg (by omega), cg_cs, if_neg (by omega)]
  · rw [cg_cs, if_neg (by omega), cg_cs, if_pos ⟨rfl, rfl, rfl⟩]
  · rw [cg_cs, if_neg (by omega), cg_cs, if_neg (by omega)]
theorem ePt_lt {M : cM} (h : ePt M) {b k : Nat} (hb : b < 10) (hk : k < 4) : 10 ≤ cp M 901 b k ∧ cp M 901 b k < 50 := by
  have := h.1 b k hb hk
  omega
theorem ePt_ne {M : cM} (h : ePt M) {b k c l : Nat} (hb : b < 10) (hk : k < 4) (hc : c < 10) (hl : l < 4) (hne : ¬ (b = c ∧ k = l)) : cp M 901 b k ≠ cp M 901 c l := by
  intro he
  have h1 := h.1 b k hb hk
  have h2 := h.1 c l hc hl
  have hbc : b = c := by omega
  subst hbc
  have hkl : k ≠ l := fun h => hne ⟨rfl, h⟩
  rcases Nat.lt_or_gt_of_ne hkl with h3 | h3
  · exact h.2 b k l hb h3 hl he
  · exact h.2 b l k hb h3 hk he.symm
/-- something put behind row b, on both sides -/
theorem push_x {sp : Nat → Bool} {m b q : Nat} {MC MC' : cM} {MR MR' : rM} (h : eG3y sp m MC MR) (hb : b < m) (hm : m ≤ 10) (hsp : sp b = false) (hq : q < 4) (h2 : cg MC 8 b 2 = nI q) (hP : ePu b q (cp MC 901 b q) MC MC') (hE : eEnA 1315 (24 * b + 6 * q) b q MC' MR') (hsm : eSm (cp MC 901 b q) MC') (hR : eH [1314, 1315, 1317] MR MR') (h17 : ∀ c, rg MR' 1317 0 c = rg MR 1317 0 c) (hR4 : rg MR' 1314 0 b = nI (q + 1) ∧ ∀ c, c ≠ b → rg MR' 1314 0 c = rg MR 1314 0 c) (hR5 : ∀ j, (j < 24 * b + 6 * q ∨ 24 * b + 6 * q + 6 ≤ j) → rg MR' 1315 0 j = rg MR 1315 0 j) : eG3y sp m MC' MR' ∧ eMs MC' = eMs MC + eM2 MC' b q := by
  obtain ⟨r1, r2, r3, r4, r5, r6, r7, r8⟩ := h
  obtain ⟨p1, p2, p3, p4, p5, p6⟩ := hP
  have hb10 : b < 10 := by omega
  have hp : ∀ kk i s, cp MC' kk i s = cp MC kk i s := fun kk i s => by unfold cp; rw [p2]
  have hj := ePt_lt r2 hb10 hq
  have h9 : ∀ c k, c < 10 → k < 4 → ¬ (c = b ∧ k = q) → ∀ s, cg MC' 9 (cp MC 901 c k) s = cg MC 9 (cp MC 901 c k) s := fun c k hc hk hne s => p6 _ s (ePt_ne r2 hc hk hb10 hq hne)
  have h9b : ∀ c s, c < 10 → cg MC' 9 c s = cg MC 9 c s := fun c s hc => p6 c s (by omega)
  have h50 : ∀ s, cg MC' 9 50 s = cg MC 9 50 s := fun s => p6 50 s (by omega)
  have en : ∀ (K a c k a' : Nat), c < 10 → k < 4 → ¬ (c = b ∧ k = q) → eEnA K a c k MC MR → (∀ s, s < 6 → rg MR' K 0 (a' + s) = rg MR K 0 (a + s)) → eEnA K a' c k MC' MR' := fun K a c k a' hc hk hne hx hr => eEnA_eq hx (p5 c k hne) (fun _ s _ => by rw [hp]; exact h9 c k hc hk hne s) hr
  refine ⟨⟨fun c hc => ?_, ?_, fun c s hc hs => ?_, fun s hs => ?_, ?_, fun c hc => ?_, fun c hc hmc => ?_, fun i hi => ?_⟩, ?_⟩
  · by_cases hcb : c = b
    · subst hcb
      refine ⟨fun hs => ?_, fun hs => by rw [hsp] at hs; cases hs⟩
      obtain ⟨q', q1, q2, q3, q4⟩ := (r1 c hc).1 hs
      have : q' = q := by
        rw [q2, eI_inj (by omega) (by omega)] at h2; exact h2
      subst this
      refine ⟨q' + 1, by omega, p3, hR4.1, fun k hk => ?_⟩
      by_cases hkq : k = q'
      · rw [hkq]; exact hE
      · exact en 1315 (24 * c + 6 * k) c k (24 * c + 6 * k) hc (by omega) (by omega) (q4 k (by omega)) (fun s hs => hR5 _ (by omega))
    · refine ⟨fun hs => ?_, fun hs => ?_⟩
      · obtain ⟨q', q1, q2, q3, q4⟩ := (r1 c hc).1 hs
        exact ⟨q', q1, by rw [p4 c hcb, q2], by rw [hR4.2 c hcb, q3], fun k hk => en 1315 (24 * c + 6 * k) c k (24 * c + 6 * k) hc (by omega) (by omega) (q4 k hk) (fun s hs => hR5 _ (by omega))⟩
      · obtain ⟨q', q1, q2, q3, q4, q5⟩ := (r1 c hc).2 hs
        exact ⟨q', q1, by rw [p4 c hcb, q2], by rw [hR4.2 c hcb, q3], en 1325 (6 * c) c 0 (6 * c) hc (by omega) (by omega) q4 (fun s hs => hR 1325 0 _ rfl), fun k hk => en 1315 (24 * c + 6 * k) c (k + 1) (24 * c + 6 * k) hc (by omega) (by omega) (q5 k hk) (fun s hs => hR5 _ (by omega))⟩
  · unfold ePt; simp only [hp]; exact r2
  · rw [h9b c s hc, hR 1316 0 _ rfl]; exact r3 c s hc hs
  · rw [h50, hR 1316 0 _ rfl]; exact r4 s hs
  · rw [h9b 0 2 (by omega)]; exact r5
  · rw [p1 2 c 14 rfl, h17 c]; exact r6 c hc
  · obtain ⟨x1, x2, x3⟩ := r7 c hc hmc
    exact ⟨by rw [p4 c (by omega), x1], by rw [p1 2 c 14 rfl, x2], fun s hs => by rw [h9b c s hc, x3 s hs]⟩
  · by_cases hij : i = cp MC 901 b q
    · rw [hij]; exact hsm
    · exact eSm_eq (r8 i hi) (fun s _ => p6 i s hij)
  · have e1 : ∀ c, c < 10 → eM1 MC' c = eM1 MC c := fun c hc => by
      unfold eM1; rw [p1 2 c 14 rfl, h9b c 2 hc]
    have hlen : ∀ c, c < 10 → ∃ q', q' ≤ 4 ∧ cg MC 8 c 2 = nI q' := by
      intro c hc
      cases hs : sp c
      · obtain ⟨q', q1, q2, -⟩ := (r1 c hc).1 hs
        exact ⟨q', q1, q2⟩
      · obtain ⟨q', q1, q2, -⟩ := (r1 c hc).2 hs
        exact ⟨q' + 1, by omega, q2⟩
    have e2 : ∀ c k, c < 10 → k < 4 → ¬ (c = b ∧ k = q) → eM2 MC' c k = eM2 MC c k := fun c k hc hk hne => by
      unfold eM2; rw [p5 c k hne, hp, h9 c k hc hk hne]
    have e3 : ∀ c, c < 10 → c ≠ b → eM3 MC' c = eM3 MC c := fun c hc hcb => by
      obtain ⟨q', q1, q2⟩ := hlen c hc
      unfold eM3; rw [p4 c hcb, q2, ex_nI (by omega)]
      exact eSig_congr (fun k hk => e2 c k hc (by omega) (by omega))
    have := eMs_row hb10 e1 e3 (h50 2)
    have e3b : eM3 MC' b = eM3 MC b + eM2 MC' b q := by
      unfold eM3
      rw [p3, h2, ex_nI (by omega), ex_nI (by omega), eSig_s, eSig_congr (f := eM2 MC b) (fun k hk => e2 b k hb10 (by omega) (by omega))]
    omega
