/-! what is said comes to the parent, or is lost -/
theorem eSig_sh (n : Nat) (f : Nat → Nat) : eSig (n + 1) f = f 0 + eSig n (fun j => f (j + 1)) := by
  induction n with
  | zero => rw [eSig_s]; show 0 + f 0 = f 0 + 0; omega
  | succ n ih => rw [eSig_s, ih, eSig_s]; omega
theorem eRx_len {sp : Nat → Bool} {m b : Nat} {MC : cM} {MR : rM} (h : eG3y sp m MC MR) (hb : b < 10) : ∃ q, q ≤ 4 ∧ cg MC 8 b 2 = nI q := by
  cases hs : sp b
  · obtain ⟨q', q1, q2, -⟩ := (h.1 b hb).1 hs
    exact ⟨q', q1, q2⟩
  · obtain ⟨q', q1, q2, -⟩ := (h.1 b hb).2 hs
    exact ⟨q' + 1, by omega, q2⟩
/-- what has been said is taken off the row -/
theorem drop_x {sp : Nat → Bool} {m b : Nat} {MC : cM} {MR : rM} (h : eG3y sp m MC MR) (hb : b < m) (hm : m ≤ 10) (hsp : sp b = true) : ∃ MC', m8_drop b 0 MC = some MC' ∧ eF [10802, 900] MC MC' ∧ (∀ kk i s, ¬ kk = 901 → cp MC' kk i s = cp MC kk i s) ∧ eG3y (fun c => sp c && !decide (c = b)) m MC' MR ∧ eMs MC' + eM2 MC b 0 = eMs MC := by
  have h' := h
  obtain ⟨r1, r2, r3, r4, r5, r6, r7, r8⟩ := h'
  have hb10 : b < 10 := by omega
  obtain ⟨q, q1, q2, q3, q4, q5⟩ := (r1 b hb10).2 hsp
  obtain ⟨M', d1, d2, d3, d4, d5, d6, d7⟩ := drop_c (b := b) (q := q + 1) (x := 0) hb10 (by omega) (by omega) q2 (fun k hk => by have := ePt_lt r2 hb10 hk; omega)
  have hpb : ePb b M' := ePb_drop (M := MC) (q := q + 1) (x := 0) ⟨fun k hk => r2.1 b k hb10 hk, fun k l hkl hl => r2.2 b k l hb10 hkl hl⟩ (by omega) (by omega) d7
  have h9 : ∀ i s, cg M' 9 i s = cg MC 9 i s := fun i s => d2 9 i s (by
    unfold zky; rw [if_pos (by omega), if_neg (by omega)]
    simp only [List.contains_cons, List.contains_nil, Bool.or_false]
    have e1 : (10000 + 100 * 9 + s == 10802) = false := by simp; omega
    have e2 : (10000 + 100 * 9 + s == 900) = false := by simp; omega
    rw [e1, e2]; rfl)
  have hp : ∀ c k, c ≠ b → cp M' 901 c k = cp MC 901 c k := fun c k hc => d3 901 c k (fun h => hc h.2)
  have hv : ∀ k, k < q → cg M' 900 b k = cg MC 900 b (k + 1) ∧ cp M' 901 b k = cp MC 901 b (k + 1) := fun k hk => by
    rw [d6 k (by omega), d7 k (by omega), if_pos (by omega), if_neg (by omega), if_pos (by omega)]
    exact ⟨rfl, rfl⟩
  refine ⟨M', d1, d2, fun kk i s hk => d3 kk i s (fun h => hk h.1), ⟨fun c hc => ?_, ⟨fun c k hc hk => ?_, fun c k l hc hkl hl => ?_⟩, fun c s hc hs => by rw [h9]; exact r3 c s hc hs, fun s hs => by rw [h9]; exact r4 s hs, by rw [h9]; exact r5, fun c hc => by rw [d2 2 c 14 rfl]; exact r6 c hc, fun c hc hmc => ?_, fun i hi => eSm_eq (r8 i hi) (fun s _ => h9 i s)⟩, ?_⟩
  · by_cases hcb : c = b
    · subst hcb
      refine ⟨fun _ => ⟨q, by omega, by rw [d5]; rfl, q3, fun k hk => ?_⟩, fun hs => by simp at hs⟩
      obtain ⟨v1, v2⟩ := hv k hk
      exact eEnA_eq (q5 k hk) v1 (fun _ s _ => by rw [v2, h9]) (fun _ _ => rfl)
    · have hd : (sp c && !decide (c = b)) = sp c := by simp [hcb]
      show eRx (sp c && !decide (c = b)) c M' MR
      rw [hd]
      obtain ⟨w1, w2⟩ := d4 c hcb
      refine ⟨fun hs => ?_, fun hs => ?_⟩
      · obtain ⟨q', a1, a2, a3, a4⟩ := (r1 c hc).1 hs
        exact ⟨q', a1, by rw [w1, a2], a3, fun k hk => eEnA_eq (K := 1315) (a := 24 * c + 6 * k) (a4 k hk) (w2 k) (fun _ s _ => by rw [hp c k hcb, h9]) (fun _ _ => rfl)⟩
      · obtain ⟨q', a1, a2, a3, a4, a5⟩ := (r1 c hc).2 hs
        exact ⟨q', a1, by rw [w1, a2], a3, eEnA_eq a4 (w2 0) (fun _ s _ => by rw [hp c 0 hcb, h9]) (fun _ _ => rfl), fun k hk => eEnA_eq (a5 k hk) (w2 _) (fun _ s _ => by rw [hp c _ hcb, h9]) (fun _ _ => rfl)⟩
  · by_cases hcb : c = b
    · rw [hcb]; exact hpb.1 k hk
    · rw [hp c k hcb]; exact r2.1 c k hc hk
  · by_cases hcb : c = b
    · rw [hcb]; exact hpb.2 k l hkl hl
    · rw [hp c k hcb, hp c l hcb]; exact r2.2 c k l hc hkl hl
  · obtain ⟨x1, x2, x3⟩ := r7 c hc hmc
    exact ⟨by rw [(d4 c (by omega)).1, x1], by rw [d2 2 c 14 rfl, x2], fun s hs => by rw [h9, x3 s hs]⟩
  · have e1 : ∀ c, c < 10 → eM1 M' c = eM1 MC c := fun c hc => by
      unfold eM1; rw [d2 2 c 14 rfl, h9]
    have e3 : ∀ c, c < 10 → c ≠ b → eM3 M' c = eM3 MC c := fun c hc hcb => by
      unfold eM3; rw [(d4 c hcb).1]
      exact eSig_congr (fun k _ => by unfold eM2; rw [(d4 c hcb).2 k, hp c k hcb, h9])
    have := eMs_row hb10 e1 e3 (h9 50 2)
    have e3b : eM3 MC b = eM2 MC b 0 + eM3 M' b := by
      unfold eM3
      rw [q2, d5, ex_nI (by omega), ex_nI (by omega), eSig_sh, Nat.add_sub_cancel]
      congr 1
      exact (eSig_congr (fun k hk => by unfold eM2; rw [(hv k hk).1, (hv k hk).2, h9])).symm
    omega
/-- a sum joined to another one, on both sides -/
theorem join_x {sp : Nat → Bool} {m i x src : Nat} {MC : cM} {MR : rM} (h : eG3y sp m MC MR) (hm : m ≤ 10) (hi : (1 ≤ i ∧ i < m ∧ x = i) ∨ (i = 50 ∧ x = 10)) (hs : 10 ≤ src ∧ src < 50) (hn : ¬ cg MC 9 src 2 = 0) (hms : nx (cg MC 9 i 2) + nx (cg MC 9 src 2) ≤ 10) (hrow : ∀ b k : Nat, b < 10 → k < 4 → cp MC 901 b k ≠ i) : ∃ MC' MR', m9_join i src MC = some MC' ∧ m12_join (nI x) (cg MC 9 src 0) (cg MC 9 src 1) (cg MC 9 src 2) (cg MC 9 src 3) (cg MC 9 src 4) MR = some MR' ∧ eF eK9 MC MC' ∧ MC'.2 = MC.2 ∧ eH [1316] MR MR' ∧ eG3y sp m MC' MR' ∧ (∀ j s, j ≠ i → cg MC' 9 j s = cg MC 9 j s) ∧ nx (cg MC' 9 i 2) = nx (cg MC 9 i 2) + nx (cg MC 9 src 2) := by
  have h' := h
  obtain ⟨r1, r2, r3, r4, r5, r6, r7, r8⟩ := h'
  have hi51 : i < 51 := by omega
  have hx : x ≤ 10 := by omega
  obtain ⟨mn, al, s1, s2, s3, s4, s5⟩ := r8 i hi51
  obtain ⟨mn', al', t1, t2, t3, t4, t5⟩ := r8 src (by omega)
  rw [s3, t3, ex_nI (by omega), ex_nI (by omega)] at hms
  have eR : ∀ s, s < 5 → rg MR 1316 0 (5 * x + s) = cg MC 9 i s := by
    intro s hs
    rcases hi with ⟨h1, h2, rfl⟩ | ⟨rfl, rfl⟩
    · exact (r3 x s (by omega) hs).symm
    · exact (r4 s hs).symm
  obtain ⟨M', a1, a2, a3, a4, a5, a6, a7, a8, a9⟩ := join9_c (i := i) (j := src) hi51 (by omega) (by omega) MC hn (fun hz => by
    have hz' : mn = 0 := by rw [s3, eI_0 (by omega)] at hz; exact hz
    have : al = 0 := by omega
    exact ⟨by rw [s4, this]; rfl, s5 hz'⟩)
  obtain ⟨N', b1, b2, b3, b4, b5, b6, b7, b8⟩ := join12_e (x := x) hx (cg MC 9 src 0) (cg MC 9 src 1) (cg MC 9 src 2) (cg MC 9 src 3) (cg MC 9 src 4) MR
  have e0 := eR 0 (by omega)
  rw [Nat.add_zero] at e0
  rw [e0, eR 2 (by omega)] at b4
  rw [eR 1 (by omega), eR 2 (by omega)] at b5
  rw [eR 2 (by omega)] at b6
  rw [eR 3 (by omega)] at b7
  rw [eR 4 (by omega)] at b8
  have eN : ∀ s, s < 5 → cg M' 9 i s = rg N' 1316 0 (5 * x + s) := by
    intro s hs
    match s, hs with
    | 0, _ => rw [a5]; exact b4.symm
    | 1, _ => rw [a6]; exact b5.symm
    | 2, _ => rw [a7]; exact b6.symm
    | 3, _ => rw [a8]; exact b7.symm
    | 4, _ => rw [a9]; exact b8.symm
  have hp : ∀ kk i s, cp M' kk i s = cp MC kk i s := fun kk i s => by unfold cp; rw [a3]
  have v2 : cg M' 9 i 2 = nI (mn + mn') := by rw [a7, s3, t3, eI_add]
  have v3 : cg M' 9 i 3 = nI (al + al') := by rw [a8, s4, t4, eI_add]
  have hmn' : mn' ≠ 0 := fun h => hn (by rw [t3, h]; rfl)
  refine ⟨M', N', a1, b1, a2, a3, b2, ⟨fun c hc => ?_, ?_, fun c s hc hs => ?_, fun s hs => ?_, ?_, fun c hc => ?_, fun c hc hmc => ?_, fun j hj => ?_⟩, a4, ?_⟩
  · refine ⟨fun hs => ?_, fun hs => ?_⟩
    · obtain ⟨q', q1, q2, q3, q4⟩ := (r1 c hc).1 hs
      exact ⟨q', q1, by rw [a2 8 c 2 rfl, q2], by rw [b2 1314 0 c rfl, q3], fun k hk => eEnA_eq (K := 1315) (a := 24 * c + 6 * k) (q4 k hk) (a2 900 c k rfl) (fun _ s _ => by rw [hp, a4 _ s (hrow c k hc (by omega))]) (fun s _ => b2 1315 0 _ rfl)⟩
    · obtain ⟨q', q1, q2, q3, q4, q5⟩ := (r1 c hc).2 hs
      exact ⟨q', q1, by rw [a2 8 c 2 rfl, q2], by rw [b2 1314 0 c rfl, q3], eEnA_eq q4 (a2 900 c 0 rfl) (fun _ s _ => by rw [hp, a4 _ s (hrow c 0 hc (by omega))]) (fun s _ => b2 1325 0 _ rfl), fun k hk => eEnA_eq (q5 k hk) (a2 900 c _ rfl) (fun _ s _ => by rw [hp, a4 _ s (hrow c _ hc (by omega))]) (fun s _ => b2 1315 0 _ rfl)⟩
  · unfold ePt; simp only [hp]; exact r2
  · rcases hi with ⟨h1, h2, rfl⟩ | ⟨rfl, rfl⟩
    · by_cases hcx : c = x
      · rw [hcx]; exact eN s hs
      · rw [a4 c s hcx, b3 _ (by omega)]; exact r3 c s hc hs
    · rw [a4 c s (by omega), b3 _ (by omega)]; exact r3 c s hc hs
  · rcases hi with ⟨h1, h2, rfl⟩ | ⟨rfl, rfl⟩
    · rw [a4 50 s (by omega), b3 _ (by omega)]; exact r4 s hs
    · exact eN s hs
  · rw [a4 0 2 (by omega)]; exact r5
  · rw [a2 2 c 14 rfl, b2 1317 0 c rfl]; exact r6 c hc
  · obtain ⟨x1, x2, x3⟩ := r7 c hc hmc
    exact ⟨by rw [a2 8 c 2 rfl, x1], by rw [a2 2 c 14 rfl, x2], fun s hs => by rw [a4 c s (by omega), x3 s hs]⟩
  · by_cases hji : j = i
    · rw [hji]
      exact ⟨mn + mn', al + al', hms, by omega, v2, v3, fun h => by omega⟩
    · exact eSm_eq (r8 j hj) (fun s _ => a4 j s hji)
  · rw [v2, s3, t3, ex_nI (by omega), ex_nI (by omega), ex_nI (by omega)]
/-- parts of the mass -/
theorem mass_ge {M : cM} {p k q : Nat} (hp : p < 10) (hk : k < 10) (h2 : cg M 8 k 2 = nI (q + 1)) (hq : q ≤ 3) : eM1 M p + eM2 M k 0 + nx (cg M 9 50 2) ≤ eMs M := by
  have h1 := eSig_le (n := 10) (eM1 M) hp
  have h3 := eSig_le (n := 10) (eM3 M) hk
  have h4 : eM2 M k 0 ≤ eM3 M k := by
    unfold eM3
    rw [h2, ex_nI (by omega)]
    exact eSig_le (n := q + 1) (eM2 M k) (by omega)
  unfold eMs
  omega
/-- words kept -/
def eKp (M : cM) (N : rM) : Prop := (∃ q : Nat, q ≤ 12 ∧ cg M 0 0 5 = nI q ∧ rg N 12 0 20 = nI q) ∧ ∀ i : Nat, i < 12 → cg M 104 0 i = rg N 1321 0 i
theorem keep_cr {a : Nat} {M : cM} {N : rM} (ha : a < 55) (h : eKp M N) : ∃ M' N', m0_keepWord (rg N 1325 0 (a + 1)) M = some M' ∧ m12_getWord_88 zfu (nI a) 11 N = some N' ∧ eF [104, 10005] M M' ∧ M'.2 = M.2 ∧ eH [1321, 11220] N N' ∧ eKp M' N' := by
  obtain ⟨⟨q, q1, q2, q3⟩, h2⟩ := h
  obtain ⟨v, hv⟩ : ∃ v, v = rg N 1325 0 (a + 1) := ⟨_, rfl⟩
  rw [← hv]
  have key : ∀ d f M1 N1, d ≤ 11 → d < f → eF [104] M M1 → M1.2 = M.2 → eH [1321] N N1 → (∀ i : Nat, i < 12 → cg M1 104 0 i = rg N1 1321 0 i) → ∃ M' N', m0_keepWord_3 f v (nI d) M1 = some M' ∧ m12_getWord_88 f (nI a) (nI d) N1 = some N' ∧ eF [104, 10005] M M' ∧ M'.2 = M.2 ∧ eH [1321, 11220] N N' ∧ eKp M' N' := by
    intro d
    induction d with
    | zero =>
      intro f M1 N1 hd hf i1 i2 i3 i4
      obtain ⟨f, rfl⟩ : ∃ f', f = f' + 1 := ⟨f - 1, by omega⟩
      have e5 : cg (cs M1 104 0 0 v) 0 0 5 = nI q := by rw [cg_cs, if_neg (by omega), i1 0 0 5 rfl, q2]
      have e20 : rg (rs N1 1321 0 0 v) 12 0 20 = nI q := by rw [rg_rs, if_neg (by omega), i3 12 0 20 rfl, q3]
      have ev : rg N1 1325 0 (a + 1) = v := by rw [i3 1325 0 _ rfl, hv]
      have x12 : ((12 : Int32) ≤ nI q) = (12 ≤ q) := by rw [show (12 : Int32) = nI 12 from rfl, eI_le (by omega) (by omega)]
      have y12 : (nI (q + 1) ≤ (12 : Int32)) = (q + 1 ≤ 12) := by rw [show (12 : Int32) = nI 12 from rfl, eI_le (by omega) (by omega)]
      have fin : ∀ r, r ≤ 12 → ∃ M' N', some (cs (cs M1 104 0 0 v) 0 0 5 (nI r)) = some M' ∧ some (rs (rs N1 1321 0 0 v) 12 0 20 (nI r)) = some N' ∧ eF [104, 10005] M M' ∧ M'.2 = M.2 ∧ eH [1321, 11220] N N' ∧ eKp M' N' := by
        intro r hr
        refine ⟨_, _, rfl, rfl, eF_cs (eF_cs (eF_mono i1 rfl) rfl) rfl, i2, eH_rs (eH_rs (eH_mono i3 rfl) rfl) rfl, ⟨r, hr, ?_, ?_⟩, fun i hi => ?_⟩
        · rw [cg_cs, if_pos ⟨rfl, rfl, rfl⟩]
        · rw [rg_rs, if_pos ⟨rfl, rfl, rfl⟩]
        · rw [cg_cs, if_neg (by omega), rg_rs, if_neg (by omega), cg_cs, rg_rs]
          by_cases hi0 : i = 0
          · rw [if_pos ⟨rfl, rfl, hi0⟩, if_pos ⟨rfl, rfl, hi0⟩]
          · rw [if_neg (fun h => hi0 h.2.2), if_neg (fun h => hi0 h.2.2)]; exact i4 i hi
      rw [m0_keepWord_3, m12_getWord_88, if_pos (show nI 0 ≤ 0 from by decide), if_pos (show nI 0 ≤ 0 from by decide)]
      simp only [show zin 0 12 = true from rfl, nx_0, e5, e20, ep1, ezin_nI (show a + 1 < 60 by omega) (show 60 < 2 ^ 31 by decide), ex_nI (show a + 1 < 2 ^ 31 by omega), ev, min_c, m12_getWord_148, x12, y12, zbd_s, zbv_s, zgd_t, Bool.and_true, Bool.true_and, Bool.and_self, if_true, if_false, e_01, eq_self, Bool.false_eq_true]
      by_cases hq : 12 ≤ q
      · have hq' : q = 12 := by omega
        rw [if_pos hq, if_neg (show ¬ q + 1 ≤ 12 by omega), hq']
        exact fin 12 (by omega)
      · rw [if_neg hq, if_pos (show q + 1 ≤ 12 by omega)]
        exact fin (q + 1) (by omega)
    | succ d ih =>
      intro f M1 N1 hd hf i1 i2 i3 i4
      obtain ⟨f, rfl⟩ : ∃ f', f = f' + 1 := ⟨f - 1, by omega⟩
      have c0 : ¬ nI (d + 1) ≤ 0 := by rw [eI_pos (by omega)]; omega
      rw [m0_keepWord_3, m12_getWord_88, if_neg c0, if_neg c0]
      have hm1 : nI (d + 1) + (-1 : Int32) = nI d := by rw [← nI_sub1 d, Int32.sub_eq_add_neg]
      simp only [nI_sub1, hm1, ezin_nI (show d < 12 by omega) (show 12 < 2 ^ 31 by decide), ex_nI (show d < 2 ^ 31 by omega), ezin_nI (show d + 1 < 12 by omega) (show 12 < 2 ^ 31 by decide), ex_nI (show d + 1 < 2 ^ 31 by omega), zbd_s, zbv_s, zgd_t, Bool.and_true, Bool.true_and, Bool.and_self, if_true, if_false, e_01, eq_self, Bool.false_eq_true]
      refine ih f _ _ (by omega) (by omega) (eF_cs i1 rfl) i2 (eH_rs i3 rfl) (fun i hi => ?_)
      rw [cg_cs, rg_rs]
      by_cases hid : i = d + 1
      · rw [if_pos ⟨rfl, rfl, hid⟩, if_pos ⟨rfl, rfl, hid⟩]; exact i4 d (by omega)
      · rw [if_neg (fun h => hid h.2.2), if_neg (fun h => hid h.2.2)]; exact i4 i hi
  exact key 11 zfu M N (by omega) (zfu_gt (by omega)) eF_refl rfl eH_refl h2
theorem putOn_e {p q a : Nat} {MR : rM} (hp : p < 10) (hq : q < 4) (ha : a + 6 ≤ 60) (h1 : rg MR 1314 0 p = nI q) : ∃ MR', m12_putOnRow (nI p) (nI a) MR = some MR' ∧ eH [1314, 1315] MR MR' ∧ rg MR' 1314 0 p = nI (q + 1) ∧ (∀ c, c ≠ p → rg MR' 1314 0 c = rg MR 1314 0 c) ∧ (∀ s, s < 6 → rg MR' 1315 0 (24 * p + 6 * q + s) = rg MR 1325 0 (a + s)) ∧ ∀ j, (j < 24 * p + 6 * q ∨ 24 * p + 6 * q + 6 ≤ j) → rg MR' 1315 0 j = rg MR 1315 0 j := by
  unfold m12_putOnRow
  simp only [ezin_nI (show p < 10 by omega) (show 10 < 2 ^ 31 by decide), ex_nI (show p < 2 ^ 31 by omega), h1, e24, e6, eI_add, zbd_s, zbv_s, zgd_t, Bool.and_true, Bool.true_and, Bool.and_self, if_true, if_false, e_01, eq_self, Bool.false_eq_true]
  refine eloop (σ := rM) (fun f k M => ∃ MR', m12_putOnRow_19 f (nI p) (nI a) (nI (24 * p + 6 * q)) (nI k) M = some MR' ∧ eH [1314, 1315] MR MR' ∧ rg MR' 1314 0 p = nI (q + 1) ∧ (∀ c, c ≠ p → rg MR' 1314 0 c = rg MR 1314 0 c) ∧ (∀ s, s < 6 → rg MR' 1315 0 (24 * p + 6 * q + s) = rg MR 1325 0 (a + s)) ∧ ∀ j, (j < 24 * p + 6 * q ∨ 24 * p + 6 * q + 6 ≤ j) → rg MR' 1315 0 j = rg MR 1315 0 j) (fun k M => eH [1315] MR M ∧ (∀ s, s < k → rg M 1315 0 (24 * p + 6 * q + s) = rg MR 1325 0 (a + s)) ∧ ∀ j, (j < 24 * p + 6 * q ∨ 24 * p + 6 * q + 6 ≤ j) → rg M 1315 0 j = rg MR 1315 0 j) (m := 6) (k0 := 0) (by omega) ?_ ?_ (zfu_gt (by omega)) ⟨eH_refl, fun s hs => absurd hs (by omega), fun _ _ => rfl⟩
  · rintro f M ⟨i1, i2, i3⟩
    have e1 : rg M 1314 0 p = nI q := by rw [i1 1314 0 p rfl, h1]
    rw [m12_putOnRow_19, if_pos (show (6 : Int32) ≤ nI 6 from by decide)]
    simp only [ezin_nI (show p < 10 by omega) (show 10 < 2 ^ 31 by decide), ex_nI (show p < 2 ^ 31 by omega), e1, ep1, zbd_s, zbv_s, zgd_t, Bool.and_true, Bool.true_and, Bool.and_self, if_true, if_false, e_01, eq_self, Bool.false_eq_true]
    refine ⟨_, rfl, eH_rs (eH_mono i1 rfl) rfl, ?_, fun c hc => ?_, fun s hs => ?_, fun j hj => ?_⟩
    · rw [rg_rs, if_pos ⟨rfl, rfl, rfl⟩]
    · rw [rg_rs, if_neg (fun h => hc h.2.2)]; exact i1 1314 0 c rfl
    · rw [rg_rs, if_neg (by omega)]; exact i2 s hs
    · rw [rg_rs, if_neg (by omega)]; exact i3 j hj
  · rintro f k M hk0 hk ⟨i1, i2, i3⟩ ih
    have c6 : ((6 : Int32) ≤ nI k) = False := eq_false (by rw [show (6 : Int32) = nI 6 from rfl, eI_le (by omega) (by omega)]; omega)
    rw [m12_putOnRow_19]
    simp only [c6, eI_add, ep1, ezin_nI (show a + k < 60 by omega) (show 60 < 2 ^ 31 by decide), ex_nI (show a + k < 2 ^ 31 by omega), ezin_nI (show 24 * p + 6 * q + k < 240 by omega) (show 240 < 2 ^ 31 by decide), ex_nI (show 24 * p + 6 * q + k < 2 ^ 31 by omega), zbd_s, zbv_s, zgd_t, Bool.and_true, Bool.true_and, Bool.and_self, if_true, if_false, e_01, eq_self, Bool.false_eq_true]
    refine ih _ ⟨eH_rs i1 rfl, fun s hs => ?_, fun j hj => ?_⟩
    · by_cases hsk : s = k
      · subst hsk
        rw [rg_rs, if_pos ⟨rfl, rfl, rfl⟩]; exact i1 1325 0 _ rfl
      · rw [rg_rs, if_neg (by omega)]; exact i2 s (by omega)
    · rw [rg_rs, if_neg (by omega)]; exact i3 j hj
