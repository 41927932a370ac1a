/-! the class's own rules: written references, a copied row, texts -/
def zuP (f : Nat → Nat → Nat → Nat) (k i s v : Nat) : Nat → Nat → Nat → Nat := fun k' i' s' => if k' = k ∧ i' = i ∧ s' = s then v else f k' i' s'
def cps (M : cM) (k i s v : Nat) : cM := (M.1, zuP M.2 k i s v)
/-- ten elements of one row into another -/
def ccopy (M : cM) (k1 k2 : Nat) : cM := (fun k i s => if k = k2 ∧ i = 0 ∧ s < 10 then M.1 k1 0 s else M.1 k i s, M.2)
theorem zlC_congr {P P' : Nat → Nat → Nat → Nat} {k i s : Nat} (h : ∀ s', P' k i s' = P k i s') : zlC P' k i s = zlC P k i s := by
  unfold zlC
  split <;> first | rfl | (split <;> first | rfl | simp only [h]) | simp only [h]
theorem zuP_q {f : Nat → Nat → Nat → Nat} {k i s v k' i' j : Nat} (h : (k', i') ≠ (k, i)) : zuP f k i s v k' i' j = f k' i' j := by
  unfold zuP
  rw [if_neg]
  rintro ⟨rfl, rfl, -⟩
  exact h rfl
theorem zcell_uP {ad : zR → Nat} {ca : Nat → ClassId} {M : cM} {k i s v : Nat} {q' : zR} (h : q' ≠ (k, i)) : zcell ad ca (zfC (cps M k i s v)) q' = zcell ad ca (zfC M) q' := by
  obtain ⟨k', i'⟩ := q'
  have e : ∀ j, (zfC (cps M k i s v)).2.2 k' i' j = (zfC M).2.2 k' i' j := fun j => zlC_congr (fun s' => zuP_q h)
  unfold zcell zac zfv
  simp only [e]
  rfl
theorem zroomN {X : zX} {G : zG} {fr lo : Nat} {ret : Option FieldType} (hA : zAt X G fr lo ret) {f o : Nat} (h : f ≤ fr ∧ o ≤ lo) : f ≤ (zXR X).frames ∧ o ≤ (zXR X).locals := by
  obtain ⟨p, l, e, R, s, m, args, below, meth, c, Q⟩ := X
  obtain ⟨hR, -⟩ := hA
  show f ≤ R.frames ∧ o ≤ R.locals
  rw [hR]; exact h
section ZCR
variable {X : zX} {cc : ByteArray} {nL : Nat} {own : String} {tb : zT} {G : zG} {n k pc : Nat} {lv : zLv} {st : List zV} {M : cM}
theorem z_slen (Z : zOK (X, (cc, nL, own, tb), G)) {Mz : zM} (w : Nat) (hw : w < 3) (hd : decode cc pc = .ok (.arraylength, 1)) (K : zGo (X, (cc, nL, own, tb), G) n k (pc + 1, lv, .inl (Int32.ofNat (zsl w)) :: st, Mz)) : zGo (X, (cc, nL, own, tb), G) n k (pc, lv, .inr (.inr (some (2000 + w, 0))) :: st, Mz) := by
  obtain ⟨p, l, e, R, s, m, args, below, meth, c, Q⟩ := X
  obtain ⟨hx, hc, hml, hown, hts, hK, hG, htb, hE, hlocks⟩ := Z
  obtain ⟨-, h1⟩ := hE.1 w hw
  exact fun H locs ls hP hS hl => va_tlen hx hc h1 hS rfl hd (K H locs ls hP hS hl)
/-- a sum's reference into a row's row of sums -/
theorem z_aast (Z : zOK (X, (cc, nL, own, tb), G)) (hcn : zgcn G = zcC) {t i : Nat} {j : Int32} (hd : decode cc pc = .ok (.aastore, 1)) (hg : (Nat.blt i 10 && (zin j 4 && Nat.blt t 51)) = true) (K : zGo (X, (cc, nL, own, tb), G) n k (pc + 1, lv, st, zfC (cps M 901 i (nx j) t))) : zGo (X, (cc, nL, own, tb), G) n k (pc, lv, .inr (.inr (some (9, t))) :: .inl j :: .inr (.inr (some (901, i))) :: st, zfC M) := by
  obtain ⟨p, l, e, R, s, m, args, below, meth, c, Q⟩ := X
  obtain ⟨hx, hc, hml, hown, hts, hK, hG, htb, hE, hlocks⟩ := Z
  simp only [Bool.and_eq_true] at hg
  obtain ⟨g1, g2, g3⟩ := hg
  obtain ⟨q0, hq⟩ := zlive hG (k := 901) (i := i) (zhlv hcn g1)
  obtain ⟨q1, hq1⟩ := zlive hG (k := 9) (i := t) (zhlv hcn g3)
  intro H locs ls hP hS hl
  refine va_astq (tys := ztys (zgca G)) hx hc hK hP (zws_D hG (zfC M)) hS q0 3 q1 9 (cA := zgca G 3) (r := (RX9, TX9, 5)) (n := 4) (f := fun j => some (zgad G (9, M.2 901 i j))) ((zws_at hq).trans (by rw [zcell_arr (by decide)]; rfl)) rfl ((zws_at hq1).trans (by rw [zcell_obj (by decide)])) rfl (zin_in g2) hd (fun H1 locs1 hP1 _ hS1 => ?_)
  rw [zws_set (M' := zfC (cps M 901 i (nx j) t)) hG hq ?_ (fun q' hq' => zcell_uP hq')] at hP1
  · exact K H1 locs1 ls hP1 hS1 hl
  · rw [zcell_arr (by decide)]
    show Sum.inl (zgca G 3, 4, Sum.inr (Sum.inr (Sum.inr (Sum.inr _)))) = Sum.inl (zgca G 3, 4, Sum.inr (Sum.inr (Sum.inr (Sum.inr _))))
    congr 7
    funext s'
    by_cases hs : s' = j.toNatClampNeg
    · subst hs; simp [va_up, zfC, cps, zlC, zuP, nx]
    · simp [va_up, zfC, cps, zlC, zuP, nx, hs]
/-- the court's two rows of numbers change places -/
theorem z_putref (Z : zOK (X, (cc, nL, own, tb), G)) (hcn : zgcn G = zcC) {t slot idx : Nat} (hsl : slot = 8 ∨ slot = 9) (hd : decode cc pc = .ok (.putfield idx, 3)) (hf : tb.1.contains (idx, 4, slot) = true) (K : zGo (X, (cc, nL, own, tb), G) n k (pc + 3, lv, st, zfC (cps M 4 0 slot t))) : zGo (X, (cc, nL, own, tb), G) n k (pc, lv, .inr (.inr (some (508, t))) :: .inr (.inr (some (4, 0))) :: st, zfC M) := by
  obtain ⟨p, l, e, R, s, m, args, below, meth, c, Q⟩ := X
  obtain ⟨hx, hc, hml, hown, hts, hK, hG, htb, hE, hlocks⟩ := Z
  obtain ⟨q0, hq⟩ := zlive hG (k := 4) (i := 0) (zhlv hcn rfl)
  have h1 := List.contains_iff_mem.mp hf
  have h4 : slot < zof 4 := by rcases hsl with rfl | rfl <;> decide
  intro H locs ls hP hS hl
  have hty : parseFieldDescriptor (zTt 4 slot).2.2.1 = some (.array .int) := by rcases hsl with rfl | rfl <;> rfl
  refine va_put (ty := .array .int) hx hc hts (zcl_in 4 (by decide)) (ztt 4) (zcl_ty 4 (by decide)) (zcl_nm 4 (by decide)) hown hK hP (zws_D hG (zfC M)) hS q0 ((zws_at hq).trans (by rw [zcell_obj (by decide)])) (zcl_at 4 (by decide)) slot h4 (hts _ (htb.1 _ h1)) (fun _ h => zsame 4 (by decide) slot h4 ▸ h) (by rcases hsl with rfl | rfl <;> rfl) hty rfl rfl (by simpa using h4) hd (fun H1 locs1 hP1 _ hS1 => ?_)
  rw [zws_set (M' := zfC (cps M 4 0 slot t)) hG hq ?_ (fun q' hq' => zcell_uP hq')] at hP1
  · exact K H1 locs1 ls hP1 hS1 hl
  · rw [zcell_obj (by decide)]
    congr 2
    refine zrange_set ?_ (fun j hj => ?_)
    · rcases hsl with rfl | rfl <;> (simp [zfv, zft, zftT, zfC, cps, zlC, zuP, zval])
    · have e : (zfC (cps M 4 0 slot t)).2.2 4 0 j = (zfC M).2.2 4 0 j := by
        show zlC (zuP M.2 4 0 slot t) 4 0 j = zlC M.2 4 0 j
        rcases hsl with rfl | rfl
        · match j, hj with
          | 0, _ | 1, _ | 2, _ | 3, _ | 4, _ | 5, _ | 6, _ | 7, _ | 9, _ | 10, _ | 11, _ | 12, _ => rfl
          | 8, h => exact absurd rfl h
          | j + 13, _ => rfl
        · match j, hj with
          | 0, _ | 1, _ | 2, _ | 3, _ | 4, _ | 5, _ | 6, _ | 7, _ | 8, _ | 10, _ | 11, _ | 12, _ => rfl
          | 9, h => exact absurd rfl h
          | j + 13, _ => rfl
      unfold zfv
      rw [e]
      rfl
/-- the first tree of a kind is kept -/
theorem z_acopy (Z : zOK (X, (cc, nL, own, tb), G)) (hcn : zgcn G = zcC) {idx : Nat} (hlink : Cond.methodLink own idx arraycopyName ∈ zt) (hnat : Cond.native arraycopyName ∈ zt) (hstat : Cond.static arraycopyName ∈ zt) (hini : Cond.initialized "java/lang/System" ∈ zt) (hR : 1 ≤ (zXR X).frames ∧ zwid st + (nativeFrameWords "java/lang/System" "arraycopy" 5 + 11) ≤ (zXR X).locals) (hd : decode cc pc = .ok (.invokestatic idx, 3)) (K : zGo (X, (cc, nL, own, tb), G) n k (pc + 3, lv, st, zfC (ccopy M 605 606))) : zGo (X, (cc, nL, own, tb), G) n k (pc, lv, .inl 10 :: .inl 0 :: .inr (.inr (some (606, 0))) :: .inl 0 :: .inr (.inr (some (605, 0))) :: st, zfC M) := by
  obtain ⟨p, l, e, R, s, m, args, below, meth, c, Q⟩ := X
  obtain ⟨hx, hc, hml, hown, hts, hK, hG, htb, hE, hlocks⟩ := Z
  obtain ⟨q0, hq⟩ := zlive hG (k := 605) (i := 0) (zhlv hcn rfl)
  obtain ⟨q1, hq1⟩ := zlive hG (k := 606) (i := 0) (zhlv hcn rfl)
  intro H locs ls hP hS hl
  refine va_copyi (tys := ztys (zgca G)) hx hc (hml.trans hl.1.symm) hown (hts _ hlink) (hts _ hnat) (hts _ hstat) (hts _ hini) hK hP (zws_D hG (zfC M)) hS q0 q1 0 0 (c0 := zgca G 0) (c1 := zgca G 0) (n0 := 10) (n1 := 10) (f := fun j => M.1 605 0 j) (g := fun j => M.1 606 0 j) (ty := .int) ((zws_at hq).trans (by rw [zcell_arr (by decide)]; rfl)) ((zws_at hq1).trans (by rw [zcell_arr (by decide)]; rfl)) rfl rfl rfl (by decide) (by decide) (by decide) (by decide) (by decide) (fun _ _ => rfl) hR.1 (by rw [zcat_sum]; exact hR.2) hd (fun H1 locs1 hP1 _ hS1 => ?_)
  rw [zws_set (M' := zfC (ccopy M 605 606)) hG hq1 ?_ (fun q' hq' => ?_)] at hP1
  · exact K H1 locs1 ls hP1 hS1 hl
  · rw [zcell_arr (by decide)]
    show Sum.inl (zgca G 0, 10, Sum.inl _) = Sum.inl (zgca G 0, 10, Sum.inl _)
    congr 4
    funext j
    have e0 : (0 : Int32).toNatClampNeg = 0 := rfl
    have e1 : (10 : Int32).toNatClampNeg = 10 := rfl
    by_cases hj : j < 10
    · simp [va_cpy, zfC, ccopy, e0, e1, hj]
    · simp [va_cpy, zfC, ccopy, e0, e1, hj]
  · obtain ⟨k', i'⟩ := q'
    have e : ∀ j, (zfC (ccopy M 605 606)).1 k' i' j = (zfC M).1 k' i' j := by
      intro j
      show (if k' = 606 ∧ i' = 0 ∧ j < 10 then M.1 605 0 j else M.1 k' i' j) = M.1 k' i' j
      rw [if_neg]
      rintro ⟨rfl, rfl, -⟩
      exact hq' rfl
    unfold zcell zac zfv
    simp only [e]
    rfl
end ZCR
