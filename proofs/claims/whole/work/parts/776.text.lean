/-- both stand at the token from s to e -/
def eTP (T : Nat → Int32) (q s e : Nat) (MC : cM) (MR : rM) : Prop := eTxC T q MC ∧ eTxR T q MR ∧ cg MC 10 0 2 = nI s ∧ cg MC 10 0 3 = nI e ∧ eTkR T q s e MR ∧ s ≤ e ∧ e ≤ q ∧ (q ≤ s → e = s) ∧ (s < q → s + 1 ≤ e) ∧ ∀ j, s ≤ j → j < e → eKn (T j) = eKn (T s)
theorem tp_next {T : Nat → Int32} {q p : Nat} {MC : cM} {MR : rM} (hC : eTxC T q MC) (hR : eTxR T q MR) (hp : p ≤ q) (h3 : cg MC 10 0 3 = nI p) (h31 : rg MR 12 0 31 = nI p) : ∃ MC' MR' s e, m10_nextToken MC = some MC' ∧ m12_nextToken MR = some MR' ∧ eF [11002, 11003] MC MC' ∧ MC'.2 = MC.2 ∧ eH [11231, 11232, 11234, 11235] MR MR' ∧ eTP T q s e MC' MR' := by
  obtain ⟨MC', c1, c2, c3, c4, c5⟩ := next_c hC hp h3
  obtain ⟨MR', r1, r2, r3⟩ := next_e hR hp h31
  obtain ⟨s1, s2, s3, s4⟩ := eSk_ok T hp
  refine ⟨MC', MR', eSk T q p, eEd T q (eSk T q p), c1, r1, c2, c3, r2, ⟨hC.1, by rw [c2 10 0 1 rfl]; exact hC.2.1, fun j hj => by rw [c2 1100 0 j rfl]; exact hC.2.2 j hj⟩, ⟨hR.1, by rw [r2 12 0 28 rfl]; exact hR.2.1, fun j hj => by rw [r2 1329 0 j rfl]; exact hR.2.2 j hj⟩, c4, c5, r3, ?_⟩
  by_cases hq : eSk T q p < q
  · obtain ⟨e1, e2, e3, e4, e5⟩ := eEd_ok T hq
    exact ⟨by omega, e2, fun h => by omega, fun _ => e1, e3⟩
  · have : eEd T q (eSk T q p) = eSk T q p := by unfold eEd; rw [if_pos (by omega)]
    rw [this]
    exact ⟨Nat.le_refl _, s2, fun _ => rfl, fun h => by omega, fun j h1 h2 => by omega⟩
theorem tp_word {T : Nat → Int32} {q s e : Nat} {MC : cM} {MR : rM} (h : eTP T q s e MC MR) (w : Nat) (hw : w < 11) : (eIw T s e w ∧ m12_isWord (eL (eWv w)) MR = some (1, MR) ∧ ∃ MC', m10_skipWord w MC = some (1, MC') ∧ m10_nextToken MC = some MC') ∨ (¬ eIw T s e w ∧ m12_isWord (eL (eWv w)) MR = some (0, MR) ∧ m10_skipWord w MC = some (0, MC)) := by
  obtain ⟨hC, hR, h2, h3, hk, a1, a2, a3, a4, a5⟩ := h
  obtain ⟨MC', MR', s', e', n1, -⟩ := tp_next hC hR a2 h3 hk.1
  rcases skip_c hw hC a1 a2 h2 h3 with ⟨b1, b2⟩ | ⟨b1, b2⟩
  · rcases word_e hw hC.1 a1 a2 a3 a4 a5 hk with ⟨c1, c2⟩ | ⟨c1, c2⟩
    · left; exact ⟨b1, c2, MC', by rw [b2, n1, zbv_s], n1⟩
    · exact absurd b1 c1
  · rcases word_e hw hC.1 a1 a2 a3 a4 a5 hk with ⟨c1, c2⟩ | ⟨c1, c2⟩
    · exact absurd c1 b1
    · right; exact ⟨b1, c2, b2⟩
theorem iw_ne {T : Nat → Int32} {s e v w : Nat} (h : eIw T s e v) (hvw : ¬ (eWl v = eWl w ∧ eWc v 0 = eWc w 0)) (hv : v < 11) (hw : w < 11) : ¬ eIw T s e w := by
  intro h2
  apply hvw
  have t1 := (word_tab v hv).2.1
  have t2 := (word_tab w hw).2.1
  have h0 := h.2 0 (by omega)
  have h0' := h2.2 0 (by omega)
  have c1 := word_ch v hv 0 (by omega)
  have c2 := word_ch w hw 0 (by omega)
  refine ⟨by rw [← h.1, h2.1], ?_⟩
  rw [h0] at h0'
  rwa [eI_inj (Nat.lt_of_le_of_lt c1.2.2 (by decide)) (Nat.lt_of_le_of_lt c2.2.2 (by decide))] at h0'
/-- keys that reading may change -/
def eKC : List Nat := [11002, 11003, 10700, 10701, 10702, 803, 804, 805]
def eKR : List Nat := [11230, 11231, 11232, 11234, 11235, 11236, 11237, 11238, 1339]
def eFr (MC0 MC : cM) (MR0 MR : rM) : Prop := eF eKC MC0 MC ∧ MC.2 = MC0.2 ∧ eH eKR MR0 MR
/-- the draft's conditions, c of them -/
def eDr (c : Nat) (MC : cM) (MR : rM) : Prop := c ≤ 8 ∧ cg MC 7 0 2 = nI c ∧ rg MR 12 0 38 = nI c ∧ ∀ k, k < c → eCd 0 1339 k MC MR
theorem eDr_fr {c : Nat} {MC MC' : cM} {MR MR' : rM} (h : eDr c MC MR) {K K' : List Nat} (hC : eF K MC MC') (hR : eH K' MR MR') (d : eDj K [10702, 803, 804, 805] = true) (d' : eDj K' [11238, 1339] = true) : eDr c MC' MR' := by
  unfold eDr eCd at *
  simp only [eF_at hC d 7 0 2 rfl, fun j => eF_at hC d 803 0 j rfl, fun j => eF_at hC d 804 0 j rfl, fun j => eF_at hC d 805 0 j rfl, eH_at hR d' 12 0 38 rfl, fun j => eH_at hR d' 1339 0 j rfl]
  exact h
theorem eFr_next {MC0 MC MC' : cM} {MR0 MR MR' : rM} (h : eFr MC0 MC MR0 MR) (h1 : eF [11002, 11003] MC MC') (h2 : MC'.2 = MC.2) (h3 : eH [11231, 11232, 11234, 11235] MR MR') : eFr MC0 MC' MR0 MR' := ⟨eF_trans h.1 (eF_mono h1 rfl), by rw [h2, h.2.1], eH_trans h.2.2 (eH_mono h3 rfl)⟩
/-- both stop: a fault at s -/
def eSt (MC0 : cM) (MR0 : rM) (oC : Option (Int32 × cM)) (oR : Option (Int32 × rM)) : Prop := ∃ s MC MR, s ≤ 120 ∧ oC = some (0, MC) ∧ oR = some (0, MR) ∧ cg MC 10 0 2 = nI s ∧ rg MR 12 0 30 = nI s ∧ eFr MC0 MC MR0 MR
theorem fails_e {T : Nat → Int32} {q s e : Nat} {MC0 MC : cM} {MR0 MR : rM} (h : eTP T q s e MC MR) (hf : eFr MC0 MC MR0 MR) : eSt MC0 MR0 (some (0, MC)) (zbd (m12_fails MR) (fun r M => zgd (zbl r) (some (r, M)))) := by
  obtain ⟨hC, hR, h2, h3, hk, a1, a2, a3, a4, a5⟩ := h
  refine ⟨s, MC, rs MR 12 0 30 (nI s), by have := hC.1; omega, rfl, ?_, h2, rfl, hf.1, hf.2.1, eH_rs hf.2.2 rfl⟩
  unfold m12_fails
  rw [hk.2.1, zbd_s]
  rfl
theorem tp_fr {T : Nat → Int32} {q s e : Nat} {MC MC' : cM} {MR MR' : rM} (h : eTP T q s e MC MR) {K K' : List Nat} (hC : eF K MC MC') (hR : eH K' MR MR') (hl : rgl MR' 12 0 33 = rgl MR 12 0 33) (d : eDj K [11001, 11002, 11003, 1100] = true) (d' : eDj K' [11228, 11231, 11232, 11234, 11235, 1329] = true) : eTP T q s e MC' MR' := by
  obtain ⟨hC1, hR1, h2, h3, ⟨k1, k2, k3, k4, k5⟩, rest⟩ := h
  exact ⟨⟨hC1.1, by rw [eF_at hC d 10 0 1 rfl]; exact hC1.2.1, fun j hj => by rw [eF_at hC d 1100 0 j rfl]; exact hC1.2.2 j hj⟩, ⟨hR1.1, by rw [eH_at hR d' 12 0 28 rfl]; exact hR1.2.1, fun j hj => by rw [eH_at hR d' 1329 0 j rfl]; exact hR1.2.2 j hj⟩, by rw [eF_at hC d 10 0 2 rfl]; exact h2, by rw [eF_at hC d 10 0 3 rfl]; exact h3, ⟨by rw [eH_at hR d' 12 0 31 rfl]; exact k1, by rw [eH_at hR d' 12 0 32 rfl]; exact k2, by rw [hl]; exact k3, by rw [eH_at hR d' 12 0 34 rfl]; exact k4, fun a b => by rw [eH_at hR d' 12 0 35 rfl]; exact k5 a b⟩, rest⟩
/-- the token at hand is passed over -/
theorem tp_pass {T : Nat → Int32} {q s e : Nat} {MC MCn : cM} {MR MR1 : rM} (h : eTP T q s e MC MR) {K' : List Nat} (hn : m10_nextToken MC = some MCn) (hR : eH K' MR MR1) (d' : eDj K' [11228, 11231, 1329] = true) : ∃ MR' s' e', m12_nextToken MR1 = some MR' ∧ eF [11002, 11003] MC MCn ∧ MCn.2 = MC.2 ∧ eH [11231, 11232, 11234, 11235] MR1 MR' ∧ eTP T q s' e' MCn MR' := by
  obtain ⟨hC1, hR1, h2, h3, hk, a1, a2, rest⟩ := h
  obtain ⟨MC', MR', s', e', n1, n2, n3, n4, n5, n6⟩ := tp_next (MR := MR1) hC1 ⟨hR1.1, by rw [eH_at hR d' 12 0 28 rfl]; exact hR1.2.1, fun j hj => by rw [eH_at hR d' 1329 0 j rfl]; exact hR1.2.2 j hj⟩ a2 h3 (by rw [eH_at hR d' 12 0 31 rfl]; exact hk.1)
  rw [hn] at n1
  cases n1
  exact ⟨MR', s', e', n2, n3, n4, n5, n6⟩
