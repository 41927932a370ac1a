/-! LAYER 3: the two programs as Lean functions, side by side; no machine any more. Base words. -/
theorem cg_cs (M : cM) (k i s : Nat) (v : Int32) (k' i' s' : Nat) : cg (cs M k i s v) k' i' s' = if k' = k ∧ i' = i ∧ s' = s then v else cg M k' i' s' := by
  have h : cg (cs M k i s v) k' i' s' = if k' = k ∧ i' = i ∧ s' = s then v else cg M k' i' s' := rfl
  exact h.trans rfl
theorem rg_rs (M : rM) (k i s : Nat) (v : Int32) (k' i' s' : Nat) : rg (rs M k i s v) k' i' s' = if k' = k ∧ i' = i ∧ s' = s then v else rg M k' i' s' := by
  have h : rg (rs M k i s v) k' i' s' = if k' = k ∧ i' = i ∧ s' = s then v else rg M k' i' s' := rfl
  exact h.trans rfl
theorem rg_rsl (M : rM) (k i s : Nat) (v : Int64) (k' i' s' : Nat) : rg (rsl M k i s v) k' i' s' = rg M k' i' s' := by
  have h : rg (rsl M k i s v) k' i' s' = rg M k' i' s' := rfl
  exact h.trans rfl
theorem rgl_rs (M : rM) (k i s : Nat) (v : Int32) (k' i' s' : Nat) : rgl (rs M k i s v) k' i' s' = rgl M k' i' s' := by
  have h : rgl (rs M k i s v) k' i' s' = rgl M k' i' s' := rfl
  exact h.trans rfl
theorem rgl_rsl (M : rM) (k i s : Nat) (v : Int64) (k' i' s' : Nat) : rgl (rsl M k i s v) k' i' s' = if k' = k ∧ i' = i ∧ s' = s then v else rgl M k' i' s' := by
  have h : rgl (rsl M k i s v) k' i' s' = if k' = k ∧ i' = i ∧ s' = s then v else rgl M k' i' s' := rfl
  exact h.trans rfl
theorem cp_cs (M : cM) (k i s : Nat) (v : Int32) (k' i' s' : Nat) : cp (cs M k i s v) k' i' s' = cp M k' i' s' := by
  have h : cp (cs M k i s v) k' i' s' = cp M k' i' s' := rfl
  exact h.trans rfl
theorem zbd_s {α β γ : Type} (a : α) (b : β) (f : α → β → Option γ) : zbd (some (a, b)) f = f a b := by
  have h : zbd (some (a, b)) f = f a b := rfl
  exact h.trans rfl
theorem zbv_s {β γ : Type} (b : β) (f : β → Option γ) : zbv (some b) f = f b := by
  have h : zbv (some b) f = f b := rfl
  exact h.trans rfl
theorem zgd_t {α : Type} (f : Option α) : zgd true f = f := by
  have h : zgd true f = f := rfl
  exact h.trans rfl
theorem ex_nI {a : Nat} (h : a < 2 ^ 31) : nx (nI a) = a := by
  unfold nx nI; exact Int32.toNatClampNeg_ofNat_of_lt h
theorem eI_add (a b : Nat) : nI a + nI b = nI (a + b) := by unfold nI; exact (Int32.ofNat_add a b).symm
theorem eI_mul (a b : Nat) : nI a * nI b = nI (a * b) := by unfold nI; exact (Int32.ofNat_mul a b).symm
theorem eI_inj {a b : Nat} (ha : a < 2 ^ 31) (hb : b < 2 ^ 31) : (nI a = nI b) = (a = b) := by
  refine propext ⟨fun h => ?_, fun h => by rw [h]⟩
  have := congrArg nx h
  rwa [ex_nI ha, ex_nI hb] at this
theorem eI_le {a b : Nat} (ha : a < 2 ^ 31) (hb : b < 2 ^ 31) : (nI a ≤ nI b) = (a ≤ b) := by
  refine propext ?_
  rw [Int32.le_iff_toInt_le, nI_toInt ha, nI_toInt hb]; omega
theorem eI_lt {a b : Nat} (ha : a < 2 ^ 31) (hb : b < 2 ^ 31) : (nI a < nI b) = (a < b) := by
  refine propext ?_
  rw [Int32.lt_iff_toInt_lt, nI_toInt ha, nI_toInt hb]; omega
/-- an Int32 that is a small natural number -/
theorem eI_of {x : Int32} (h : 0 ≤ x) : ∃ a : Nat, a < 2 ^ 31 ∧ x = nI a := by
  refine ⟨nx x, Int32.toNatClampNeg_lt x, ?_⟩
  rw [← Int32.toInt_inj, nI_toInt (Int32.toNatClampNeg_lt x)]
  exact Int32.toInt_eq_toNatClampNeg h
theorem eI_ofb {x : Int32} {b : Nat} (h : 0 ≤ x) (h2 : x < nI b) (hb : b < 2 ^ 31) : ∃ a : Nat, a < b ∧ x = nI a := by
  obtain ⟨a, ha, rfl⟩ := eI_of h
  exact ⟨a, by rwa [eI_lt ha hb] at h2, rfl⟩
theorem eI_ofl {x : Int32} {b : Nat} (h : 0 ≤ x) (h2 : x ≤ nI b) (hb : b < 2 ^ 31) : ∃ a : Nat, a ≤ b ∧ x = nI a := by
  obtain ⟨a, ha, rfl⟩ := eI_of h
  exact ⟨a, by rwa [eI_le ha hb] at h2, rfl⟩
theorem ezin_nI {a n : Nat} (ha : a < n) (hn : n < 2 ^ 31) : zin (nI a) n = true := by
  unfold zin
  rw [show decide (nI a < 0) = false from ?_]
  · show Nat.blt (nx (nI a)) n = true
    rw [ex_nI (by omega)]
    exact Nat.ble_eq_true_of_le ha
  · rw [decide_eq_false_iff_not, show (0 : Int32) = nI 0 from rfl, eI_lt (by omega) (by omega)]; omega
theorem ezin_x {x : Int32} {n : Nat} (h : 0 ≤ x) (h2 : x < nI n) (hn : n < 2 ^ 31) : zin x n = true := by
  obtain ⟨a, ha, rfl⟩ := eI_ofb h h2 hn
  exact ezin_nI ha hn
theorem blt_t {a n : Nat} (h : a < n) : Nat.blt a n = true := Nat.ble_eq_true_of_le h
/-! frames -/
def zky (k i s : Nat) : Nat := if k < 13 then (if k = 7 then 10700 + s + 50 * i else 10000 + 100 * k + s) else (if 803 ≤ k ∧ k ≤ 805 then k + 20000 * i else k)
def eF (K : List Nat) (M M' : cM) : Prop := ∀ k i s : Nat, K.contains (zky k i s) = false → cg M' k i s = cg M k i s
def eH (K : List Nat) (M M' : rM) : Prop := ∀ k i s : Nat, K.contains (zky k i s) = false → rg M' k i s = rg M k i s
def eDj (K L : List Nat) : Bool := L.all (fun x => !(K.contains x))
theorem eDj_at {K L : List Nat} (h : eDj K L = true) (x : Nat) (hx : L.contains x = true) : K.contains x = false := by
  unfold eDj at h
  rw [List.all_eq_true] at h
  have := h x (by simpa using hx)
  simpa using this
theorem eF_refl {K : List Nat} {M : cM} : eF K M M := fun _ _ _ _ => rfl
theorem eH_refl {K : List Nat} {M : rM} : eH K M M := fun _ _ _ _ => rfl
theorem eF_cs {K : List Nat} {M N : cM} (h : eF K M N) {k i s : Nat} {v : Int32} (hk : K.contains (zky k i s) = true) : eF K M (cs N k i s v) := by
  intro k' i' s' h'
  rw [cg_cs, if_neg ?_, h k' i' s' h']
  rintro ⟨rfl, rfl, rfl⟩
  rw [hk] at h'; cases h'
theorem eH_rs {K : List Nat} {M N : rM} (h : eH K M N) {k i s : Nat} {v : Int32} (hk : K.contains (zky k i s) = true) : eH K M (rs N k i s v) := by
  intro k' i' s' h'
  rw [rg_rs, if_neg ?_, h k' i' s' h']
  rintro ⟨rfl, rfl, rfl⟩
  rw [hk] at h'; cases h'
theorem eH_rsl {K : List Nat} {M N : rM} (h : eH K M N) {k i s : Nat} {v : Int64} : eH K M (rsl N k i s v) := h
theorem eF_trans {K : List Nat} {M N O : cM} (h : eF K M N) (h2 : eF K N O) : eF K M O := fun k i s hk => (h2 k i s hk).trans (h k i s hk)
theorem eH_trans {K : List Nat} {M N O : rM} (h : eH K M N) (h2 : eH K N O) : eH K M O := fun k i s hk => (h2 k i s hk).trans (h k i s hk)
theorem eF_mono {K L : List Nat} {M N : cM} (h : eF K M N) (hk : K.all (fun x => L.contains x) = true) : eF L M N := by
  intro k i s hL
  refine h k i s ?_
  rw [List.all_eq_true] at hk
  by_cases hc : K.contains (zky k i s) = true
  · have := hk (zky k i s) (by simpa using hc)
    rw [hL] at this; cases this
  · simpa using hc
theorem eH_mono {K L : List Nat} {M N : rM} (h : eH K M N) (hk : K.all (fun x => L.contains x) = true) : eH L M N := by
  intro k i s hL
  refine h k i s ?_
  rw [List.all_eq_true] at hk
  by_cases hc : K.contains (zky k i s) = true
  · have := hk (zky k i s) (by simpa using hc)
    rw [hL] at this; cases this
  · simpa using hc
theorem eF_at {K L : List Nat} {M M' : cM} (h : eF K M M') (hd : eDj K L = true) (k i s : Nat) (hk : L.contains (zky k i s) = true) : cg M' k i s = cg M k i s := h k i s (eDj_at hd _ hk)
theorem eH_at {K L : List Nat} {M M' : rM} (h : eH K M M') (hd : eDj K L = true) (k i s : Nat) (hk : L.contains (zky k i s) = true) : rg M' k i s = rg M k i s := h k i s (eDj_at hd _ hk)
/-! bits -/
def eb (x : Int32) (j : Nat) : Bool := x.toBitVec.getLsbD j
theorem zfu_eq : zfu = 99999 + 1 := rfl
