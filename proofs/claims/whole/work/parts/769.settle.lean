theorem eTd_fr {M N : rM} {K' : List Nat} (hR : eH K' M N) (d' : eDj K' [1369, 1370] = true) (d st : Nat) (dx : Nat → Nat) (e : Nat) : eTd N d st dx e = eTd M d st dx e := by
  have hTn : ∀ e t, eTn N e t = eTn M e t := by intro e t; unfold eTn; rw [eH_at hR d' 1370 0 _ rfl]
  have hHe : ∀ e s, eHe N e s = eHe M e s := by intro e s; unfold eHe; rw [eH_at hR d' 1369 0 e rfl]
  have hTi : ∀ e t v, eTi N dx e t v = eTi M dx e t v := by
    intro e t v
    induction t with
    | zero => rfl
    | succ t iht => rw [eTi_s, eTi_s, hTn, hHe, iht]
  induction e with
  | zero => rfl
  | succ e ihe => unfold eTd; rw [hTi, ihe]
theorem eStl_iff {vs : Nat → Nat} {ss : Nat → Bool} {n : Nat} : eStl vs ss n = true ↔ ∀ k j, k < n → j < n → vs k = vs j → ss k = ss j := by
  unfold eStl; exact @decide_eq_true_iff _ (Classical.propDecidable _)
theorem eStl_congr {vs ps : Nat → Nat} {ss : Nat → Bool} {n : Nat} (h : ∀ k j, k < n → j < n → (ps k = ps j ↔ vs k = vs j)) : eStl ps ss n = eStl vs ss n := by
  rw [Bool.eq_iff_iff, eStl_iff, eStl_iff]
  exact ⟨fun h1 k j hk hj hv => h1 k j hk hj ((h k j hk hj).mpr hv), fun h1 k j hk hj hv => h1 k j hk hj ((h k j hk hj).mp hv)⟩
noncomputable def eGS (MR : rM) (d : Nat) (L : List Nat) (ss : Nat → Bool) (st : Nat) : Bool := decide (nI st &&& rg MR 12 0 71 = 0) && eStl (fun i => eTd MR d st (eDg d (L.getD i 0)) 6) ss L.length
theorem getD_of {L : List Nat} {i x : Nat} (h : L[i]? = some x) : L.getD i 0 = x := by
  rw [List.getD_eq_getElem?_getD, h]; rfl
theorem sett_e {d so c dd a b : Nat} {MR N0 : rM} {L : List Nat} {ss : Nat → Bool} (hR : eH [11272, 1373] MR N0) (h67 : rg MR 12 0 67 = nI d) (hd : d ≤ 5) (hso : so ≤ 1) (hc : c < 6) (hdd : dd < 6) (hab : a ≤ b) (hb : b < d) (h72 : rg N0 12 0 72 = nI L.length) (hL : eArR N0 1373 L) (hlen : L.length ≤ 7776) (hx : ∀ i x, L[i]? = some x → x < 7776 ∧ ss i = eSc d so c dd a b x) : ∃ MR', m12_settle_36 zfu (nI so) (nI c) (nI dd) (nI a) (nI b) (-1) 0 N0 = some (eBI (eBe (eGS MR d L ss) 64), MR') ∧ eH [1374, 1375] N0 MR' := by
  refine eloop (σ := rM) (fun f s N => ∃ MR', m12_settle_36 f (nI so) (nI c) (nI dd) (nI a) (nI b) (eBI (eBe (eGS MR d L ss) s)) (nI s) N = some (eBI (eBe (eGS MR d L ss) 64), MR') ∧ eH [1374, 1375] N0 MR') (fun s N => eH [1374, 1375] N0 N) (m := 64) (k0 := 0) (by omega) ?_ ?_ (zfu_gt (by omega)) eH_refl
  · intro f N i1
    simp only [m12_settle_36, show ((64 : Int32) ≤ nI 64) = True from eq_true (by decide), zbd_s, zbv_s, zgd_t, Bool.and_true, Bool.true_and, Bool.and_self, if_true, if_false, e_01, eq_self, Bool.false_eq_true]
    exact ⟨N, rfl, i1⟩
  · intro f s N _ hs i1 ih
    have hbc := eBc_6 s hs
    rw [eBe_s] at ih
    have hRN : eH [11272, 1373, 1374, 1375] MR N := eH_trans (eH_mono hR rfl) (eH_mono i1 rfl)
    have e67 : rg N 12 0 67 = nI d := by rw [hRN 12 0 67 rfl, h67]
    have e71 : rg N 12 0 71 = rg MR 12 0 71 := hRN 12 0 71 rfl
    have hLN : eArR N 1373 L := fun i x h => by rw [i1 1373 0 i rfl]; exact hL i x h
    obtain ⟨N', s1, s2⟩ := settles_e (n := 0) (vs := fun i => eTd MR d s (eDg d (L.getD i 0)) 6) (ss := ss) e67 hd hs hso hc hdd hab hb (by rw [i1 12 0 72 rfl, h72]) hLN hlen (fun i x h => ⟨(hx i x h).1, by rw [eTd_fr hRN rfl, getD_of h], (hx i x h).2⟩)
    have h72' : ∀ x7, m12_settle_72 (m12_settle_36 f) (nI so) (nI c) (nI dd) (nI a) (nI b) x7 (nI s) N = m12_settle_36 f (nI so) (nI c) (nI dd) (nI a) (nI b) (if eStl (fun i => eTd MR d s (eDg d (L.getD i 0)) 6) ss L.length then nI s else x7) (nI (s + 1)) N' := by
      intro x7
      unfold m12_settle_72 m12_settle_92
      rw [s1, zbd_s, ep1]
      cases eStl (fun i => eTd MR d s (eDg d (L.getD i 0)) 6) ss L.length <;> simp
    have i1' := eH_trans i1 s2
    simp only [m12_settle_36, m12_settle_92, show ((64 : Int32) ≤ nI s) = False from eq_false (by rw [show (64 : Int32) = nI 64 from rfl, eI_le (by omega) (by omega)]; omega), e71, h72', bits_e (show s < 1024 by omega), ep1, zbd_s, zbv_s, zgd_t, Bool.and_true, Bool.true_and, Bool.and_self, if_true, if_false, e_01, eq_self, Bool.false_eq_true]
    by_cases c2 : nI s &&& rg MR 12 0 71 = 0
    · simp only [c2, if_true]
      have hgd : eGS MR d L ss s = eStl (fun i => eTd MR d s (eDg d (L.getD i 0)) 6) ss L.length := by unfold eGS; rw [decide_eq_true c2, Bool.true_and]
      rw [hgd] at ih
      cases hB : eBe (eGS MR d L ss) s with
      | none =>
        rw [hB] at ih
        simp only [eBI, if_true]
        cases c3 : eStl (fun i => eTd MR d s (eDg d (L.getD i 0)) 6) ss L.length with
        | true => rw [c3] at ih; simp only [if_true, eBI] at ih ⊢; exact ih N' i1'
        | false => rw [c3] at ih; simp only [Bool.false_eq_true, if_false, eBI] at ih ⊢; exact ih N' i1'
      | some bb =>
        rw [hB] at ih
        have hb64 := (eBe_some _ _ _ hB).1
        have hbb := eBc_6 bb (by omega)
        simp only [eBI, nI_m1 (show bb < 2 ^ 31 by omega), if_false, bits_e (show bb < 1024 by omega), eI_le (show eBc bb < 2 ^ 31 by omega) (show eBc s < 2 ^ 31 by omega), zbd_s]
        by_cases c4 : eBc bb ≤ eBc s
        · simp only [c4, if_true]
          cases c3 : eStl (fun i => eTd MR d s (eDg d (L.getD i 0)) 6) ss L.length with
          | true => rw [c3] at ih; simp only [if_true, show (eBc s < eBc bb) = False from eq_false (by omega), if_false, eBI] at ih ⊢; exact ih N i1
          | false => rw [c3] at ih; simp only [Bool.false_eq_true, if_false, eBI] at ih ⊢; exact ih N i1
        · simp only [c4, if_false, h72']
          cases c3 : eStl (fun i => eTd MR d s (eDg d (L.getD i 0)) 6) ss L.length with
          | true => rw [c3] at ih; simp only [if_true, show (eBc s < eBc bb) = True from eq_true (by omega), eBI] at ih ⊢; exact ih N' i1'
          | false => rw [c3] at ih; simp only [Bool.false_eq_true, if_false, eBI] at ih ⊢; exact ih N' i1'
    · simp only [c2, if_false]
      have hgd : eGS MR d L ss s = false := by unfold eGS; simp [c2]
      rw [hgd] at ih
      simp only [Bool.false_eq_true, if_false] at ih
      exact ih N i1
theorem sett_c {d : Nat} {M0 : cM} {MR : rM} {L : List Nat} {ss : Nat → Bool} (g8 : eG8 M0 MR) (h1 : cg M0 4 0 1 = nI d) (hd : d ≤ 5) (hL : ∀ i x, L[i]? = some x → x < 7776 ∧ cg M0 510 0 i = nI (2 * x + eB1 (ss i))) (hlen : L.length ≤ 7776) : ∃ MC', m4_fewestSettling_58 (nI L.length) M0 = some (eBI (eBe (eGS MR d L ss) 64), MC') ∧ eF [507, 512] M0 MC' ∧ MC'.2 = M0.2 := by
  unfold m4_fewestSettling_58
  refine eloop (σ := cM) (fun f z M => ∃ MC', m4_fewestSettling_60 f (nI L.length) (nI z) M = some (eBI (eBe (eGS MR d L ss) 64), MC') ∧ eF [507, 512] M0 MC' ∧ MC'.2 = M0.2) (fun z M => (eF [507, 512] M0 M ∧ M.2 = M0.2) ∧ ∀ s, s < 64 → eGS MR d L ss s = true → z ≤ eBc s) (m := 7) (k0 := 0) (by omega) ?_ ?_ (zfu_gt (by omega)) ⟨⟨eF_refl, rfl⟩, fun s _ _ => Nat.zero_le _⟩
  · rintro f M ⟨i1, i2⟩
    have hn : eBe (eGS MR d L ss) 64 = none := by
      cases hB : eBe (eGS MR d L ss) 64 with
      | none => rfl
      | some b =>
        obtain ⟨a1, a2, a3⟩ := eBe_some _ _ _ hB
        have := i2 b a1 a2
        have := eBc_6 b a1
        omega
    simp only [m4_fewestSettling_60, show ((6 : Int32) < nI 7) = True from eq_true (by decide), hn, zbd_s, zbv_s, zgd_t, Bool.and_true, Bool.true_and, Bool.and_self, if_true, if_false, e_01, eq_self, Bool.false_eq_true]
    exact ⟨M, rfl, i1⟩
  · rintro f z M _ hz ⟨i1, i2⟩ ih
    have hz6 : ((6 : Int32) < nI z) = False := eq_false (by rw [show (6 : Int32) = nI 6 from rfl, eI_lt (by omega) (by omega)]; omega)
    simp only [m4_fewestSettling_60, hz6, zbd_s, zbv_s, zgd_t, Bool.and_true, Bool.true_and, Bool.and_self, if_true, if_false, e_01, eq_self, Bool.false_eq_true]
    refine eloop (σ := cM) (fun f' s N => ∃ MC', m4_fewestSettling_68 (m4_fewestSettling_60 f) f' (nI L.length) (nI z) (nI s) N = some (eBI (eBe (eGS MR d L ss) 64), MC') ∧ eF [507, 512] M0 MC' ∧ MC'.2 = M0.2) (fun s N => (eF [507, 512] M0 N ∧ N.2 = M0.2) ∧ ∀ u, u < s → eGS MR d L ss u = true → eBc u ≠ z) (m := 64) (k0 := 0) (by omega) ?_ ?_ (zfu_gt (by omega)) ⟨i1, fun u h => absurd h (by omega)⟩
    · rintro f' N ⟨j1, j2⟩
      simp only [m4_fewestSettling_68, show ((64 : Int32) ≤ nI 64) = True from eq_true (by decide), ep1, zbd_s, zbv_s, zgd_t, Bool.and_true, Bool.true_and, Bool.and_self, if_true, if_false, e_01, eq_self, Bool.false_eq_true]
      refine ih N ⟨j1, fun s hs hg => ?_⟩
      have := i2 s hs hg
      have := j2 s hs hg
      omega
    · rintro f' s N _ hs ⟨j1, j2⟩ ih'
      have hb := eBc_6 s hs
      have hl : cg N 4 0 2 = rg MR 12 0 71 := by rw [j1.1 4 0 2 rfl]; exact g8.2.1.1
      have g8' : eG8 N MR := eG8_fr g8 j1.1 (eH_refl (K := [])) (by unfold cp; rw [j1.2]; exact ⟨rfl, rfl⟩) rfl rfl
      obtain ⟨N', s1, s2, s3⟩ := settled_c (ps := fun i => ePl MR s (eDg d (L.getD i 0)) d) (ss := ss) g8' (by rw [j1.1 4 0 1 rfl, h1]) hd hs (fun i x h => ⟨(hL i x h).1, by rw [j1.1 510 0 i rfl]; exact (hL i x h).2, by rw [getD_of h]⟩) hlen
      have hst : eStl (fun i => ePl MR s (eDg d (L.getD i 0)) d) ss L.length = eStl (fun i => eTd MR d s (eDg d (L.getD i 0)) 6) ss L.length := eStl_congr (fun k j _ _ => ePl_td MR d s _ _ (eDg_lt d _) (eDg_lt d _))
      rw [hst] at s1
      have j1' : eF [507, 512] M0 N' ∧ N'.2 = M0.2 := ⟨eF_trans j1.1 s2, by rw [s3, j1.2]⟩
      simp only [m4_fewestSettling_68, m4_fewestSettling_105, show ((64 : Int32) ≤ nI s) = False from eq_false (by rw [show (64 : Int32) = nI 64 from rfl, eI_le (by omega) (by omega)]; omega), bitC (show s < 1024 by omega), eI_inj (show eBc s < 2 ^ 31 by omega) (show z < 2 ^ 31 by omega), hl, s1, ei_1, ep1, zbd_s, zbv_s, zgd_t, Bool.and_true, Bool.true_and, Bool.and_self, if_true, if_false, e_01, eq_self, Bool.false_eq_true]
      by_cases c1 : eBc s = z
      · simp only [c1, if_true]
        by_cases c2 : nI s &&& rg MR 12 0 71 = 0
        · simp only [c2, if_true]
          cases c3 : eStl (fun i => eTd MR d s (eDg d (L.getD i 0)) 6) ss L.length with
          | true =>
            have hg : eGS MR d L ss s = true := by unfold eGS; rw [c3, decide_eq_true c2]; rfl
            have := eBe_hit hs hg c1 i2 j2
            simp only [reduceCtorEq, if_false]
            exact ⟨N', by rw [this]; rfl, j1'⟩
          | false =>
            simp only [if_true]
            refine ih' N' ⟨j1', fun u hu hg => ?_⟩
            by_cases hus : u = s
            · subst hus; unfold eGS at hg; rw [c3] at hg; simp at hg
            · exact j2 u (by omega) hg
        · simp only [c2, if_false]
          refine ih' N ⟨j1, fun u hu hg => ?_⟩
          by_cases hus : u = s
          · subst hus; unfold eGS at hg; simp [c2] at hg
          · exact j2 u (by omega) hg
      · simp only [c1, if_false]
        refine ih' N ⟨j1, fun u hu hg => ?_⟩
        by_cases hus : u = s
        · subst hus; exact c1
        · exact j2 u (by omega) hg
theorem o_settle {n : Nat} {MC : cM} {MR : rM} (h : eRel n MC MR) (x1 x2 x3 x4 x5 : Int32) : eO n (m11_settle x1 x2 x3 x4 x5 MC) (m12_settle x1 x2 x3 x4 x5 MR) := by
  obtain ⟨m, t, hm, ht, g0, g1, g2, g3, g4, g5, g6, g7, g8, g9⟩ := h
  obtain ⟨d, d1, d2, d3, d4⟩ := g8.1
  obtain ⟨A, hA, hA6⟩ := miss_ok g0
  unfold m11_settle m12_settle
  rcases claim_e (n := n) d1 d2 d3 d4 x1 x2 x3 x4 x5 with ⟨r, hr, e1, e2⟩ | ⟨e1, e2, so, c, dd, a, b, hso, hc, hdd, hab, hb, rfl, rfl, rfl, rfl, rfl⟩
  · rw [e1, e2, zbd_s, zbd_s, if_neg (Int32.not_le.mpr hr), if_neg (fun h => by rw [h] at hr; exact absurd hr (by decide))]
    exact eO_same ⟨m, t, hm, ht, g0, g1, g2, g3, g4, g5, g6, g7, g8, g9⟩
  rw [e1, e2, zbd_s, zbd_s, if_pos (by decide), if_pos rfl]
  obtain ⟨M1, hM1⟩ : ∃ X, X = cs (cs (cs (cs (cs MC 4 0 13 (nI so)) 4 0 14 (nI c)) 4 0 15 (nI dd)) 4 0 16 (nI a)) 4 0 17 (nI b) := ⟨_, rfl⟩
  have hcl : m4_claim (nI so) (nI c) (nI dd) (nI a) (nI b) MC = some M1 := by rw [hM1]; rfl
  have f1 : eF [10413, 10414, 10415, 10416, 10417] MC M1 := by rw [hM1]; exact (by repeat (first | exact eF_refl | refine eF_cs ?_ rfl))
  have p1 : M1.2 = MC.2 := by rw [hM1]; rfl
  have g0' : eG0 m t M1 MR := eG0_fr g0 f1 (eH_refl (K := [])) rfl rfl
  have g8' : eG8 M1 MR := eG8_fr g8 f1 (eH_refl (K := [])) (by unfold cp; rw [p1]; exact ⟨rfl, rfl⟩) rfl rfl
  have d3' : cg M1 4 0 1 = nI d := by rw [f1 4 0 1 rfl, d3]
  obtain ⟨M2, c1, c2, c3, c4⟩ := list_c g0' g8' d3' d1 d2 hA hA6
  obtain ⟨MR', r1, r2, r3, r4⟩ := find_e (w := rg MR 12 0 71) g8 d4 d1 d2 hA hA6
  have hp : 6 ^ d ≤ 6 ^ 5 := Nat.pow_le_pow_right (by decide) d2
  have hp5 : (6 : Nat) ^ 5 = 7776 := by decide
  have hln := eLs_len (eQ MR (rg MR 12 0 71) A d) (6 ^ d)
  obtain ⟨L, hL⟩ : ∃ L, L = eLs (eQ MR (rg MR 12 0 71) A d) (6 ^ d) := ⟨_, rfl⟩
  have r3' : rg MR' 12 0 72 = nI L.length := by rw [hL]; exact r3
  have r4' : eArR MR' 1373 L := by rw [hL]; exact r4
  have hLx : ∀ i x : Nat, L[i]? = some x → x < 7776 := by
    intro i x h
    have := List.mem_of_getElem? h
    rw [hL] at this
    have := (eLs_mem this).1
    omega
  rw [← hL] at c1 c4 hln
  obtain ⟨ss, hss⟩ : ∃ ss : Nat → Bool, ss = fun i => eSc d so c dd a b (L.getD i 0) := ⟨_, rfl⟩
  have hssx : ∀ i x : Nat, L[i]? = some x → ss i = eSc d so c dd a b x := by intro i x h; rw [hss]; dsimp only; rw [getD_of h]
  obtain ⟨MR2, q1, q2⟩ := sett_e (ss := ss) r2 d4 d2 hso hc hdd hab hb r3' r4' (by omega) (fun i x h => ⟨hLx i x h, hssx i x h⟩)
  have h7 : ∃ M3, m4_fewestSettling_7 zfu (nI L.length) 0 M2 = m4_fewestSettling_58 (nI L.length) M3 ∧ eF [510] M2 M3 ∧ M3.2 = M2.2 ∧ ∀ i x, L[i]? = some x → cg M3 510 0 i = nI (2 * x + eB1 (ss i)) := by
    refine eloop (σ := cM) (fun f i M => ∃ M3, m4_fewestSettling_7 f (nI L.length) (nI i) M = m4_fewestSettling_58 (nI L.length) M3 ∧ eF [510] M2 M3 ∧ M3.2 = M2.2 ∧ ∀ i x, L[i]? = some x → cg M3 510 0 i = nI (2 * x + eB1 (ss i))) (fun i M => eF [510] M2 M ∧ M.2 = M2.2 ∧ (∀ j x, j < i → L[j]? = some x → cg M 510 0 j = nI (2 * x + eB1 (ss j))) ∧ ∀ j, i ≤ j → cg M 510 0 j = cg M2 510 0 j) (m := L.length) (k0 := 0) (Nat.zero_le _) ?_ ?_ (zfu_gt (by omega)) ⟨eF_refl, rfl, fun j x h => absurd h (by omega), fun j _ => rfl⟩
    · rintro f M ⟨i1, i2, i3, i4⟩
      simp only [m4_fewestSettling_7, eI_le (show L.length < 2 ^ 31 by omega) (show L.length < 2 ^ 31 by omega), Nat.le_refl, zbd_s, zbv_s, zgd_t, Bool.and_true, Bool.true_and, Bool.and_self, if_true, if_false, e_01, eq_self, Bool.false_eq_true]
      exact ⟨M, rfl, i1, i2, fun i x h => i3 i x (List.getElem?_eq_some_iff.mp h).1 h⟩
    · rintro f i M _ hi ⟨i1, i2, i3, i4⟩ ih
      obtain ⟨x, hx⟩ : ∃ x, L[i]? = some x := ⟨_, List.getElem?_eq_getElem hi⟩
      have hxl := hLx i x hx
      have hFM : eF [10413, 10414, 10415, 10416, 10417, 506, 510, 511] MC M := eF_trans (eF_mono f1 rfl) (eF_trans (eF_mono c2 rfl) (eF_mono i1 rfl))
      have h1' : cg M 4 0 1 = nI d := by rw [hFM 4 0 1 rfl, d3]
      have hFM1 : eF [506, 510, 511] M1 M := eF_trans c2 (eF_mono i1 rfl)
      have q13 : cg M 4 0 13 = nI so := by rw [hFM1 4 0 13 rfl, hM1]; rfl
      have q14 : cg M 4 0 14 = nI c := by rw [hFM1 4 0 14 rfl, hM1]; rfl
      have q15 : cg M 4 0 15 = nI dd := by rw [hFM1 4 0 15 rfl, hM1]; rfl
      have q16 : cg M 4 0 16 = nI a := by rw [hFM1 4 0 16 rfl, hM1]; rfl
      have q17 : cg M 4 0 17 = nI b := by rw [hFM1 4 0 17 rfl, hM1]; rfl
      have hv : cg M 510 0 i = nI x := by rw [i4 i (Nat.le_refl _)]; exact c4 i x hx
      have hs := hssx i x hx
      have hstep : ∀ v, v = nI (2 * x + eB1 (ss i)) → (eF [510] M2 (cs M 510 0 i v) ∧ (cs M 510 0 i v).2 = M2.2 ∧ (∀ j x, j < i + 1 → L[j]? = some x → cg (cs M 510 0 i v) 510 0 j = nI (2 * x + eB1 (ss j))) ∧ ∀ j, i + 1 ≤ j → cg (cs M 510 0 i v) 510 0 j = cg M2 510 0 j) := by
        intro v hv2
        refine ⟨eF_cs i1 rfl, i2, fun j y hj hy => ?_, fun j hj => ?_⟩
        · by_cases hji : j = i
          · subst hji
            rw [hx] at hy; cases hy
            simp [cg_cs]; exact hv2
          · rw [cg_cs, if_neg (by omega)]; exact i3 j y (by omega) hy
        · rw [cg_cs, if_neg (by omega)]; exact i4 j (by omega)
      simp only [m4_fewestSettling_7, m4_fewestSettling_50, eI_le (show L.length < 2 ^ 31 by omega) (show i < 2 ^ 31 by omega), show (L.length ≤ i) = False from eq_false (by omega), show ((7776 : Int32) ≤ nI i) = False from eq_false (by rw [show (7776 : Int32) = nI 7776 from rfl, eI_le (by omega) (by omega)]; omega), ezin_nI (show i < 7776 by omega) (show 7776 < 2 ^ 31 by decide), ex_nI (show i < 2 ^ 31 by omega), hv, so_c h1' d2 hso hc hdd hab hb (show x < 2 ^ 31 by omega) q13 q14 q15 q16 q17, ei_1, ep1, ← hs, zbd_s, zbv_s, zgd_t, Bool.and_true, Bool.true_and, Bool.and_self, if_true, if_false, e_01, eq_self, Bool.false_eq_true]
      cases hssi : ss i with
      | true =>
        simp only [reduceCtorEq, if_false]
        exact ih _ (hstep _ (by rw [hssi]; exact pack2 (b := 1) (by decide)))
      | false =>
        simp only [if_true]
        exact ih _ (hstep _ (by rw [hssi]; exact pack2 (b := 0) (by decide)))
  obtain ⟨M3, t1, t2, t3, t4⟩ := h7
  have hF3 : eF [10413, 10414, 10415, 10416, 10417, 506, 510, 511] MC M3 := eF_trans (eF_mono f1 rfl) (eF_trans (eF_mono c2 rfl) (eF_mono t2 rfl))
  have hP3 : M3.2 = MC.2 := by rw [t3, c3, p1]
  have g83 : eG8 M3 MR := eG8_fr g8 hF3 (eH_refl (K := [])) (by unfold cp; rw [hP3]; exact ⟨rfl, rfl⟩) rfl rfl
  obtain ⟨M4, u1, u2, u3⟩ := sett_c (ss := ss) g83 (by rw [hF3 4 0 1 rfl, d3]) d2 (fun i x h => ⟨hLx i x h, t4 i x h⟩) (by omega)
  unfold m4_fewestSettling
  rw [hcl, zbv_s, c1, zbd_s, t1, u1, zbd_s, r1, zbv_s, q1]
  exact eO_fin rfl (eRel_fr hm ht g0 g1 g2 g3 g4 g5 g6 g7 g8 g9 (eF_trans (eF_mono hF3 rfl : eF [10413, 10414, 10415, 10416, 10417, 506, 507, 510, 511, 512] MC M3) (eF_mono u2 rfl)) (eH_trans (eH_mono r2 rfl : eH [11272, 1373, 1374, 1375] MR MR') (eH_mono q2 rfl)) (by rw [u3, hP3]) rfl rfl)
