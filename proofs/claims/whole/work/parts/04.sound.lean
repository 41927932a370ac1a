/-! every step is the machine's -/
theorem zblt_t {a b : Nat} : Nat.blt a b = true ↔ a < b := by simp [Nat.blt_eq]
theorem zblt_f {a b : Nat} : Nat.blt a b = false ↔ ¬ a < b := by
  rw [← zblt_t]
  cases Nat.blt a b <;> simp
theorem zcl_at : ∀ k : Nat, k < 13 → vwCl[k]? = some (zRt k, zTt k, zof k) := by
  intro k hk
  match k, hk with
  | 0, _ => rfl
  | 1, _ => rfl
  | 2, _ => rfl
  | 3, _ => rfl
  | 4, _ => rfl
  | 5, _ => rfl
  | 6, _ => rfl
  | 7, _ => rfl
  | 8, _ => rfl
  | 9, _ => rfl
  | 10, _ => rfl
  | 11, _ => rfl
  | 12, _ => rfl
  | k + 13, h => omega
theorem zt_of {w : Cond} (h : w ∈ lw_tbl) (g : goodWord w = true) : w ∈ zt := List.mem_filter.mpr ⟨h, g⟩
theorem zt_in {w : Cond} (h : w ∈ zt) : w ∈ lw_tbl ∧ goodWord w = true := List.mem_filter.mp h
theorem zt_ws {C : String} {T : u_T} {N : Nat} (h : ∀ w ∈ u_ws C T N, w ∈ lw_tbl) : ∀ w ∈ u_ws C T N, w ∈ zt := by
  intro w hw
  refine zt_of (h w hw) ?_
  obtain ⟨k, -, rfl⟩ := List.mem_map.mp hw
  unfold u_lay
  split <;> rfl
theorem zcl_in : ∀ k : Nat, k < 13 → ∀ w ∈ u_ws (zRt k) (zTt k) (zof k), w ∈ zt := by
  intro k hk
  match k, hk with
  | 0, _ => exact zt_ws inX0
  | 1, _ => exact zt_ws inX1
  | 2, _ => exact zt_ws inX2
  | 3, _ => exact zt_ws inX3
  | 4, _ => exact zt_ws inX4
  | 5, _ => exact zt_ws inX5
  | 6, _ => exact zt_ws inX6
  | 7, _ => exact zt_ws inX7
  | 8, _ => exact zt_ws inX8
  | 9, _ => exact zt_ws inX9
  | 10, _ => exact zt_ws inX10
  | 11, _ => exact zt_ws inX11
  | 12, _ => exact zt_ws inX12
  | k + 13, h => omega
theorem zcl_nm : ∀ k : Nat, k < 13 → ∀ a, a < zof k → ∀ b, b < zof k → a ≠ b → (zTt k a).2.1 ≠ (zTt k b).2.1 := by
  intro k hk
  match k, hk with
  | 0, _ => exact nmX0
  | 1, _ => exact nmX1
  | 2, _ => exact nmX2
  | 3, _ => exact nmX3
  | 4, _ => exact nmX4
  | 5, _ => exact nmX5
  | 6, _ => exact nmX6
  | 7, _ => exact nmX7
  | 8, _ => exact nmX8
  | 9, _ => exact nmX9
  | 10, _ => exact nmX10
  | 11, _ => exact nmX11
  | 12, _ => exact nmX12
  | k + 13, h => omega
theorem zcl_ty : ∀ k : Nat, k < 13 → ∀ j, j < zof k → parseFieldDescriptor (zTt k j).2.2.1 = some (ztt k j) := by
  intro k hk
  match k, hk with
  | 0, _ => exact tyX0_ok
  | 1, _ => exact tyX1_ok
  | 2, _ => exact tyX2_ok
  | 3, _ => exact tyX3_ok
  | 4, _ => exact tyX4_ok
  | 5, _ => exact tyX5_ok
  | 6, _ => exact tyX6_ok
  | 7, _ => exact tyX7_ok
  | 8, _ => exact tyX8_ok
  | 9, _ => exact tyX9_ok
  | 10, _ => exact tyX10_ok
  | 11, _ => exact tyX11_ok
  | 12, _ => exact tyX12_ok
  | k + 13, h => omega
/-- tags and types agree -/
theorem ztag_ok : ∀ k, k < 13 → ∀ j, j < zof k → (zft k j = 0 → ztt k j = .int) ∧ (zft k j = 3 → ztt k j = .boolean) ∧ (zft k j = 1 → ztt k j = .long) := by decide +kernel
theorem zrange_set {N s : Nat} {f g : Nat → Value} {v : Value} (hv : g s = v) (hg : ∀ j, j ≠ s → g j = f j) : ((List.range N).map f).set s v = (List.range N).map g := by
  apply List.ext_getElem?
  intro j
  by_cases hj : j = s
  · subst hj
    by_cases hl : j < N
    · rw [List.getElem?_set_self (by simpa using hl)]
      simp [hl, hv]
    · rw [List.getElem?_eq_none (by simpa using hl), List.getElem?_eq_none (by simpa using hl)]
  · rw [List.getElem?_set_ne (Ne.symm hj)]
    by_cases hl : j < N
    · simp [hl, hg j hj]
    · rw [List.getElem?_eq_none (by simpa using hl), List.getElem?_eq_none (by simpa using hl)]
theorem zws_at {G : zG} {M : zM} {q : zR} {q0 : Nat} (h : (zgU G)[q0]? = some q) : (zws G M)[q0]? = some (zgad G q, zcell (zgad G) (zgca G) M q) := by
  unfold zws
  rw [List.getElem?_map, h]; rfl
theorem zws_set {G : zG} {M M' : zM} {q : zR} {q0 : Nat} {e : va_E} (hG : zGok G) (h : (zgU G)[q0]? = some q) (he : e = zcell (zgad G) (zgca G) M' q) (ho : ∀ q', q' ≠ q → zcell (zgad G) (zgca G) M' q' = zcell (zgad G) (zgca G) M q') : (zws G M).set q0 (zgad G q, e) = zws G M' := by
  have hlt : q0 < (zws G M).length := (List.getElem?_eq_some_iff.mp (zws_at (M := M) h)).1
  apply List.ext_getElem?
  intro j
  by_cases hj : j = q0
  · subst hj
    rw [List.getElem?_set_self hlt, zws_at h, he]
  · rw [List.getElem?_set_ne (Ne.symm hj)]
    cases hu : (zgU G)[j]? with
    | none =>
      unfold zws
      rw [List.getElem?_map, List.getElem?_map, hu]; rfl
    | some q' =>
      rw [zws_at hu, zws_at hu]
      have hne : q' ≠ q := fun hq => hj (hG.1 j q0 q' q hu h (by rw [hq]))
      rw [ho q' hne]
theorem zws_D {G : zG} (hG : zGok G) (M : zM) : va_D (zgA G) (zws G M) := by
  have key : ∀ (i : Nat) (p : Nat × va_E), (zws G M)[i]? = some p → ∃ q, (zgU G)[i]? = some q ∧ p.1 = zgad G q := by
    intro i p hp
    unfold zws at hp
    rw [List.getElem?_map] at hp
    cases hu : (zgU G)[i]? with
    | none => rw [hu] at hp; cases hp
    | some q => rw [hu] at hp; cases hp; exact ⟨q, rfl, rfl⟩
  refine ⟨fun i j p q hi hj hpq => ?_, fun i p hi => ?_⟩
  · obtain ⟨a, ha, ea⟩ := key i p hi
    obtain ⟨b, hb, eb⟩ := key j q hj
    exact hG.1 i j a b ha hb (by rw [← ea, ← eb, hpq])
  · obtain ⟨a, ha, ea⟩ := key i p hi
    rw [ea]
    exact hG.2.1 a (List.mem_of_getElem? ha)
theorem zlive {G : zG} (hG : zGok G) {k i : Nat} (h : Nat.blt i (zgcn G k) = true) : ∃ q0 : Nat, (zgU G)[q0]? = some (k, i) := List.getElem?_of_mem (hG.2.2 k i h)
theorem zcell_obj {ad : zR → Nat} {ca : Nat → ClassId} {M : zM} {k i : Nat} (hk : k < 13) : zcell ad ca M (k, i) = .inr (k, (List.range (zof k)).map (zfv ad M k i)) := by
  unfold zcell
  rw [zblt_t.mpr hk]
theorem zcell_arr {ad : zR → Nat} {ca : Nat → ClassId} {M : zM} {k i : Nat} (hk : ¬ k < 13) : zcell ad ca M (k, i) = .inl (ca (zak k).1, zac ad M k i) := by
  unfold zcell
  rw [zblt_f.mpr hk]
theorem zak_arr {k : Nat} (h : (zak k).1 < 4) : ¬ k < 13 := by
  intro hk
  have h2 : zak k = (9, 0) := by
    match k, hk with
    | 0, _ => rfl
    | 1, _ => rfl
    | 2, _ => rfl
    | 3, _ => rfl
    | 4, _ => rfl
    | 5, _ => rfl
    | 6, _ => rfl
    | 7, _ => rfl
    | 8, _ => rfl
    | 9, _ => rfl
    | 10, _ => rfl
    | 11, _ => rfl
    | 12, _ => rfl
    | k + 13, h => omega
  rw [h2] at h
  exact absurd h (by decide)
theorem zuI_same {f : Nat → Nat → Nat → Int32} {k i s : Nat} {v : Int32} : zuI f k i s v k i s = v := by simp [zuI]
theorem zuI_s {f : Nat → Nat → Nat → Int32} {k i s j : Nat} {v : Int32} (h : j ≠ s) : zuI f k i s v k i j = f k i j := by simp [zuI, h]
theorem zuI_q {f : Nat → Nat → Nat → Int32} {k i s k' i' j : Nat} {v : Int32} (h : (k', i') ≠ (k, i)) : zuI f k i s v k' i' j = f k' i' j := by
  unfold zuI
  rw [if_neg]
  rintro ⟨rfl, rfl, -⟩
  exact h rfl
theorem zuL_same {f : Nat → Nat → Nat → Int64} {k i s : Nat} {v : Int64} : zuL f k i s v k i s = v := by simp [zuL]
theorem zuL_s {f : Nat → Nat → Nat → Int64} {k i s j : Nat} {v : Int64} (h : j ≠ s) : zuL f k i s v k i j = f k i j := by simp [zuL, h]
theorem zuL_q {f : Nat → Nat → Nat → Int64} {k i s k' i' j : Nat} {v : Int64} (h : (k', i') ≠ (k, i)) : zuL f k i s v k' i' j = f k' i' j := by
  unfold zuL
  rw [if_neg]
  rintro ⟨rfl, rfl, -⟩
  exact h rfl
theorem zcell_uI {ad : zR → Nat} {ca : Nat → ClassId} {I : Nat → Nat → Nat → Int32} {N : (Nat → Nat → Nat → Int64) × (Nat → Nat → Nat → Option zR)} {k i s : Nat} {v : Int32} {q' : zR} (h : q' ≠ (k, i)) : zcell ad ca (zuI I k i s v, N) q' = zcell ad ca (I, N) q' := by
  obtain ⟨k', i'⟩ := q'
  unfold zcell zac zfv
  simp only [zuI_q h]
theorem zcell_uL {ad : zR → Nat} {ca : Nat → ClassId} {I : Nat → Nat → Nat → Int32} {L : Nat → Nat → Nat → Int64} {F : Nat → Nat → Nat → Option zR} {k i s : Nat} {v : Int64} {q' : zR} (h : q' ≠ (k, i)) : zcell ad ca (I, zuL L k i s v, F) q' = zcell ad ca (I, L, F) q' := by
  obtain ⟨k', i'⟩ := q'
  unfold zcell zac zfv
  simp only [zuL_q h]
/-! inversions -/
theorem zI1_inv {f : Int32 → zV} {n : Nat} {S S' : zS} {c : Bool} (h : zI1 f n S = some (c, S')) : ∃ x st, S.2.2.1 = .inl x :: st ∧ S' = (S.1 + n, S.2.1, f x :: st, S.2.2.2) := by
  unfold zI1 at h
  split at h
  · rename_i x st e
    cases h
    exact ⟨x, st, e, rfl⟩
  · cases h
theorem zL1_inv {f : Int64 → zV} {n : Nat} {S S' : zS} {c : Bool} (h : zL1 f n S = some (c, S')) : ∃ x st, S.2.2.1 = .inr (.inl x) :: st ∧ S' = (S.1 + n, S.2.1, f x :: st, S.2.2.2) := by
  unfold zL1 at h
  split at h
  · rename_i x st e
    cases h
    exact ⟨x, st, e, rfl⟩
  · cases h
theorem zI2_inv {g : Int32 → Int32 → Bool} {f : Int32 → Int32 → Int32} {n : Nat} {S S' : zS} {c : Bool} (h : zI2 g f n S = some (c, S')) : ∃ x y st, S.2.2.1 = .inl y :: .inl x :: st ∧ c = g x y ∧ S' = (S.1 + n, S.2.1, .inl (f x y) :: st, S.2.2.2) := by
  unfold zI2 at h
  split at h
  · rename_i y x st e
    cases h
    exact ⟨x, y, st, e, rfl, rfl⟩
  · cases h
theorem zL2_inv {f : Int64 → Int64 → zV} {n : Nat} {S S' : zS} {c : Bool} (h : zL2 f n S = some (c, S')) : ∃ x y st, S.2.2.1 = .inr (.inl y) :: .inr (.inl x) :: st ∧ S' = (S.1 + n, S.2.1, f x y :: st, S.2.2.2) := by
  unfold zL2 at h
  split at h
  · rename_i y x st e
    cases h
    exact ⟨x, y, st, e, rfl⟩
  · cases h
theorem zLI_inv {f : Int64 → Int32 → Int64} {n : Nat} {S S' : zS} {c : Bool} (h : zLI f n S = some (c, S')) : ∃ x y st, S.2.2.1 = .inl y :: .inr (.inl x) :: st ∧ S' = (S.1 + n, S.2.1, .inr (.inl (f x y)) :: st, S.2.2.2) := by
  unfold zLI at h
  split at h
  · rename_i y x st e
    cases h
    exact ⟨x, y, st, e, rfl⟩
  · cases h
theorem zld_inv {t : zV → Bool} {i n : Nat} {S S' : zS} {c : Bool} (h : zld t i n S = some (c, S')) : ∃ v, (i, v) ∈ S.2.1 ∧ t v = true ∧ S' = (S.1 + n, S.2.1, v :: S.2.2.1, S.2.2.2) := by
  unfold zld at h
  split at h
  · rename_i v e
    split at h
    · rename_i e2
      cases h
      exact ⟨v, zget_mem e, e2, rfl⟩
    · cases h
  · cases h
theorem zso_inv {t : zV → Bool} {i n : Nat} {S S' : zS} {c : Bool} (h : zso t i n S = some (c, S')) : ∃ v st, S.2.2.1 = v :: st ∧ t v = true ∧ S' = (S.1 + n, zput1 i v S.2.1, st, S.2.2.2) := by
  unfold zso at h
  split at h
  · rename_i v st e
    split at h
    · rename_i e2
      cases h
      exact ⟨v, st, e, e2, rfl⟩
    · cases h
  · cases h
theorem zsoL_inv {i n : Nat} {S S' : zS} {c : Bool} (h : zsoL i n S = some (c, S')) : ∃ x st, S.2.2.1 = .inr (.inl x) :: st ∧ S' = (S.1 + n, zput2 i (.inr (.inl x)) S.2.1, st, S.2.2.2) := by
  unfold zsoL at h
  split at h
  · rename_i x st e
    cases h
    exact ⟨x, st, e, rfl⟩
  · cases h
theorem zinc_inv {i n : Nat} {w : Int} {S S' : zS} {c : Bool} (h : zinc i w n S = some (c, S')) : ∃ x : Int32, (i, (.inl x : zV)) ∈ S.2.1 ∧ S' = (S.1 + n, zput1 i (.inl (x + Int32.ofInt w)) S.2.1, S.2.2.1, S.2.2.2) := by
  unfold zinc at h
  split at h
  · rename_i x e
    cases h
    exact ⟨x, zget_mem e, rfl⟩
  · cases h
theorem zgf_inv {cn : Nat → Nat} {f : zM → Nat → zV} {k n : Nat} {S S' : zS} {c : Bool} (h : zgf cn f k n S = some (c, S')) : ∃ i st, S.2.2.1 = .inr (.inr (some (k, i))) :: st ∧ c = Nat.blt i (cn k) ∧ S' = (S.1 + n, S.2.1, f S.2.2.2 i :: st, S.2.2.2) := by
  unfold zgf at h
  split at h
  · rename_i k' i st e
    split at h
    · rename_i e2
      cases h
      rw [Nat.eq_of_beq_eq_true e2] at e
      exact ⟨i, st, e, rfl, rfl⟩
    · cases h
  · cases h
theorem zpf_inv {cn : Nat → Nat} {g : Int32 → Bool} {k s n : Nat} {S S' : zS} {c : Bool} (h : zpf cn g k s n S = some (c, S')) : ∃ x i st, S.2.2.1 = .inl x :: .inr (.inr (some (k, i))) :: st ∧ c = (Nat.blt i (cn k) && g x) ∧ S' = (S.1 + n, S.2.1, st, (zuI S.2.2.2.1 k i s x, S.2.2.2.2)) := by
  unfold zpf at h
  split at h
  · rename_i x k' i st e
    split at h
    · rename_i e2
      cases h
      rw [Nat.eq_of_beq_eq_true e2] at e
      exact ⟨x, i, st, e, rfl, rfl⟩
    · cases h
  · cases h
theorem zpfL_inv {cn : Nat → Nat} {k s n : Nat} {S S' : zS} {c : Bool} (h : zpfL cn k s n S = some (c, S')) : ∃ x i st, S.2.2.1 = .inr (.inl x) :: .inr (.inr (some (k, i))) :: st ∧ c = Nat.blt i (cn k) ∧ S' = (S.1 + n, S.2.1, st, (S.2.2.2.1, zuL S.2.2.2.2.1 k i s x, S.2.2.2.2.2)) := by
  unfold zpfL at h
  split at h
  · rename_i x k' i st e
    split at h
    · rename_i e2
      cases h
      rw [Nat.eq_of_beq_eq_true e2] at e
      exact ⟨x, i, st, e, rfl, rfl⟩
    · cases h
  · cases h
theorem zal_inv {cn : Nat → Nat} {t : Nat} {f : zM → Nat → Nat → Nat → zV} {n : Nat} {S S' : zS} {c : Bool} (h : zal cn t f n S = some (c, S')) : (∃ j k i st, S.2.2.1 = .inl j :: .inr (.inr (some (k, i))) :: st ∧ (zak k).1 = t ∧ c = (Nat.blt i (cn k) && zin j (zak k).2) ∧ S' = (S.1 + n, S.2.1, f S.2.2.2 k i j.toNatClampNeg :: st, S.2.2.2)) ∨ (∃ j w st, t = 0 ∧ S.2.2.1 = .inl j :: .inr (.inr (some (2000 + w, 0))) :: st ∧ c = (Nat.blt w 3 && zin j (zsl w)) ∧ S' = (S.1 + n, S.2.1, .inl (zsv w j.toNatClampNeg) :: st, S.2.2.2)) := by
  unfold zal at h
  split at h
  · rename_i j k i st e
    split at h
    · split at h
      · rename_i e2
        cases h
        exact Or.inl ⟨j, k, i, st, e, Nat.eq_of_beq_eq_true e2, rfl, rfl⟩
      · cases h
    · rename_i e1
      split at h
      · rename_i e2
        split at h
        · rename_i e3
          injection h with h
          injection h with h1 h2
          subst h1; subst h2
          have hk : ¬ k < 2000 := zblt_f.mp e1
          have hw : 2000 + (k - 2000) = k := by omega
          refine Or.inr ⟨j, k - 2000, st, Nat.eq_of_beq_eq_true e2, ?_, rfl, rfl⟩
          rw [hw, ← Nat.eq_of_beq_eq_true e3]; exact e
        · cases h
      · cases h
  · cases h
theorem zas_inv {cn : Nat → Nat} {t : Nat} {g : Int32 → Int32} {n : Nat} {S S' : zS} {c : Bool} (h : zas cn t g n S = some (c, S')) : ∃ x j k i st, S.2.2.1 = .inl x :: .inl j :: .inr (.inr (some (k, i))) :: st ∧ (zak k).1 = t ∧ c = (Nat.blt i (cn k) && zin j (zak k).2) ∧ S' = (S.1 + n, S.2.1, st, (zuI S.2.2.2.1 k i j.toNatClampNeg (g x), S.2.2.2.2)) := by
  unfold zas at h
  split at h
  · rename_i x j k i st e
    split at h
    · split at h
      · rename_i e2
        cases h
        exact ⟨x, j, k, i, st, e, Nat.eq_of_beq_eq_true e2, rfl, rfl⟩
      · cases h
    · cases h
  · cases h
theorem zlen_inv {cn : Nat → Nat} {n : Nat} {S S' : zS} {c : Bool} (h : zlen cn n S = some (c, S')) : ∃ k i st, S.2.2.1 = .inr (.inr (some (k, i))) :: st ∧ ¬ k < 13 ∧ (zak k).1 < 4 ∧ c = Nat.blt i (cn k) ∧ S' = (S.1 + n, S.2.1, .inl (Int32.ofNat (zak k).2) :: st, S.2.2.2) := by
  unfold zlen at h
  split at h
  · rename_i k i st e
    split at h
    · split at h
      · rename_i e1
        split at h
        · rename_i e2
          cases h
          exact ⟨k, i, st, e, zblt_f.mp e1, zblt_t.mp e2, rfl, rfl⟩
        · cases h
      · cases h
    · cases h
  · cases h
