/-! the constructors' rules, in the order of making -/
def zwI (M : zM) (k i s : Nat) (v : Int32) : zM := (zuI M.1 k i s v, M.2)
def zwF (M : zM) (k i s : Nat) (r : zR) : zM := (M.1, M.2.1, zuF M.2.2 k i s (some r))
def zfl (M : zM) (k i : Nat) (n : Nat) (v : Int32) : zM := (fun k' i' s => if k' = k ∧ i' = i ∧ s < n then v else M.1 k' i' s, M.2)
def zc0 : Nat → Nat := fun _ => 0
/-- the world of the first n of U -/
def zGt (U : List zR) (D : va_G) (ad : zR → Nat) (ca : Nat → ClassId) (A : Nat → Prop) (n : Nat) : zG := (D, ad, ca, A, U.take n, zc0)
def zWh (U : List zR) (base : Nat) (ad : zR → Nat) (A : Nat → Prop) : Prop := (∀ (j : Nat) (r : zR), U[j]? = some r → ad r = base + j) ∧ ∀ x : Nat, base ≤ x → A x
theorem zGt_x {U : List zR} {D : va_G} {ad : zR → Nat} {ca : Nat → ClassId} {A : Nat → Prop} {n : Nat} {r : zR} (h : U[n]? = some r) : zGx (zGt U D ad ca A n) r zc0 = zGt U D ad ca A (n + 1) := by
  show (D, ad, ca, A, U.take n ++ [r], zc0) = (D, ad, ca, A, U.take (n + 1), zc0)
  rw [List.take_succ, h]; rfl
theorem zGt_at {U : List zR} {n j : Nat} {r : zR} (h : (U.take n)[j]? = some r) : U[j]? = some r ∧ j < n := by
  rw [List.getElem?_take] at h
  split at h
  · rename_i hj; exact ⟨h, hj⟩
  · cases h
theorem zGt_ok {U : List zR} {base : Nat} {D : va_G} {ad : zR → Nat} {ca : Nat → ClassId} {A : Nat → Prop} (hW : zWh U base ad A) (n : Nat) : zGok (zGt U D ad ca A n) := by
  refine ⟨fun i j q q' hi hj he => ?_, fun q hq => ?_, fun k i h => ?_⟩
  · have h1 := hW.1 i q (zGt_at hi).1
    have h2 := hW.1 j q' (zGt_at hj).1
    have he : ad q = ad q' := he
    omega
  · obtain ⟨j, hj⟩ := List.getElem?_of_mem hq
    exact hW.2 _ (by show base ≤ ad q; rw [hW.1 j q (zGt_at hj).1]; omega)
  · exact absurd h (by simp [zgcn, zGt, zc0, Nat.blt])
theorem zmU {U : List zR} {n j : Nat} {r : zR} (h : U[j]? = some r) (hj : j < n) : r ∈ U.take n := List.mem_of_getElem? (i := j) (by rw [List.getElem?_take, if_pos hj]; exact h)
section ZC3
variable {p : Program} {l : Launch} {e : Env} {R : Room} {s : State} {m : MethodId} {args : Array Value} {below : List Frame} {meth : Method} {c : Code} {Q : State → Prop} {cc : ByteArray} {nL : Nat} {own : String} {tb : zT} {n k pc idx : Nat} {lv : zLv} {st : List zV} {M M' : zM}
variable {U : List zR} {base n0 g : Nat} {D : va_G} {ad : zR → Nat} {ca : Nat → ClassId} {A : Nat → Prop}
theorem zlastC (hW : zWh U base ad A) (hs : s.heap.size = base + n0) (hg : n0 + n = g) (hU : g ≤ U.length) : n = 0 ∨ ∃ q ∈ zgU (zGt U D ad ca A g), zgad (zGt U D ad ca A g) q + 1 = s.heap.size + n := by
  by_cases h0 : n = 0
  · exact Or.inl h0
  · have hl : g - 1 < U.length := by omega
    refine Or.inr ⟨U[g - 1], zmU (j := g - 1) (by simp [hl]) (by omega), ?_⟩
    have h1 := hW.1 (g - 1) U[g - 1] (by simp [hl])
    show ad U[g - 1] + 1 = _
    omega
theorem c_new (hW : zWh U base ad A) (hs : s.heap.size = base + n0) (hg : n0 + n = g) {kk i : Nat} (hr : U[g]? = some (kk, i)) (Z : zOK (zCm p l e R s m args below meth c Q cc nL own tb (zGt U D ad ca A g))) (hk : kk < 13) (hcl : Cond.classLink own idx (zRt kk) ∈ zt) (hins : Cond.instantiable (zRt kk) (zof kk) ∈ zt) (hini : Cond.initialized (zRt kk) ∈ zt) (hR : n + 1 ≤ R.cells ∧ k + zof kk ≤ R.slots) (hd : decode cc pc = .ok (.new idx, 3))
    (K : zGo (zCm p l e R s m args below meth c Q cc nL own tb (zGt U D ad ca A (g + 1))) (n + 1) (k + zof kk) (pc + 3, lv, .inr (.inr (some (kk, i))) :: st, zclr M kk i)) : zGo (zCm p l e R s m args below meth c Q cc nL own tb (zGt U D ad ca A g)) n k (pc, lv, st, M) := by
  have hl := (List.getElem?_eq_some_iff.mp hr).1
  rw [← zGt_x hr] at K
  exact z_new Z (by rw [zGt_x hr]; exact zGt_ok hW _) hk (by show ad _ = _; rw [hW.1 g _ hr]; omega) (zlastC hW hs hg (by omega)) (fun x hx => hW.2 x (by omega)) hcl hins hini hR hd K
theorem c_newa (hW : zWh U base ad A) (hs : s.heap.size = base + n0) (hg : n0 + n = g) {kk i t : Nat} {at' : ArrayType} (hr : U[g]? = some (kk, i)) (Z : zOK (zCm p l e R s m args below meth c Q cc nL own tb (zGt U D ad ca A g))) (ht : t = 0 ∧ at' = .int ∨ t = 1 ∧ at' = .boolean) (hk : (zak kk).1 = t) (har : Cond.arrayClass (newarray.typeOf at') ∈ zt) {N : Int32} (hN : decide (N < 0) = false ∧ N.toNatClampNeg = (zak kk).2 ∧ Nat.ble ((zak kk).2 * 4) 536870912 = true) (hR : n + 1 ≤ R.cells ∧ k + (zak kk).2 ≤ R.slots) (hd : decode cc pc = .ok (.newarray at', 2))
    (K : zGo (zCm p l e R s m args below meth c Q cc nL own tb (zGt U D ad ca A (g + 1))) (n + 1) (k + (zak kk).2) (pc + 2, lv, .inr (.inr (some (kk, i))) :: st, zclr M kk i)) : zGo (zCm p l e R s m args below meth c Q cc nL own tb (zGt U D ad ca A g)) n k (pc, lv, .inl N :: st, M) := by
  have hl := (List.getElem?_eq_some_iff.mp hr).1
  rw [← zGt_x hr] at K
  exact z_newa Z ht (by rw [zGt_x hr]; exact zGt_ok hW _) hk (by show ad _ = _; rw [hW.1 g _ hr]; omega) (zlastC hW hs hg (by omega)) (fun x hx => hW.2 x (by omega)) har hN hR hd K
theorem c_newq (hW : zWh U base ad A) (hs : s.heap.size = base + n0) (hg : n0 + n = g) {kk i t : Nat} {C0 : String} (hr : U[g]? = some (kk, i)) (Z : zOK (zCm p l e R s m args below meth c Q cc nL own tb (zGt U D ad ca A g))) (ht : t = 2 ∧ C0 = "EarField$Box" ∨ t = 3 ∧ C0 = "EarField$Sum") (hk : (zak kk).1 = t) (hcl : Cond.classLink own idx C0 ∈ zt) (hov : va_AO C0 s) {N : Int32} (hN : decide (N < 0) = false ∧ N.toNatClampNeg = (zak kk).2 ∧ Nat.ble ((zak kk).2 * 4) 536870912 = true) (hR : n + 1 ≤ R.cells ∧ k + (zak kk).2 ≤ R.slots) (hd : decode cc pc = .ok (.anewarray idx, 3))
    (K : zGo (zCm p l e R s m args below meth c Q cc nL own tb (zGt U D ad ca A (g + 1))) (n + 1) (k + (zak kk).2) (pc + 3, lv, .inr (.inr (some (kk, i))) :: st, zclr M kk i)) : zGo (zCm p l e R s m args below meth c Q cc nL own tb (zGt U D ad ca A g)) n k (pc, lv, .inl N :: st, M) := by
  have hl := (List.getElem?_eq_some_iff.mp hr).1
  rw [← zGt_x hr] at K
  exact z_newq Z ht (by rw [zGt_x hr]; exact zGt_ok hW _) hk (by show ad _ = _; rw [hW.1 g _ hr]; omega) (zlastC hW hs hg (by omega)) (fun x hx => hW.2 x (by omega)) hcl hov hN hR hd K
theorem c_call (hW : zWh U base ad A) (hs : s.heap.size = base + n0) (hg : n0 + n = g) (hU : g ≤ U.length) (Z : zOK (zCm p l e R s m args below meth c Q cc nL own tb (zGt U D ad ca A g))) {y : MethodName} {bytes : ByteArray} {maxL fr lo na mc ms : Nat} {as : List zV} {r : zR} (hM : zMetC l y bytes maxL fr mc ms lo (.inr (.inr (some r)) :: as) (base + g) (zGt U D ad ca A g) M (zGt U D ad ca A (g + mc)) M') (ho1 : va_AO "EarField$Box" s) (ho2 : va_AO "EarField$Sum" s) (hw : zcw own idx y bytes maxL none na) (hin : Cond.instanceMethod y ∈ zt) (hy1 : y.name = "<init>") (hn : as.length = na) (hR : fr + 1 ≤ R.frames ∧ 8 + (maxL + 11) + lo ≤ R.locals) (hroom : Nat.ble (zwid st) 8 = true) (hd : decode cc pc = .ok (.invokespecial idx, 3)) (hnk : n + mc ≤ R.cells ∧ k + ms ≤ R.slots)
    (K : zGo (zCm p l e R s m args below meth c Q cc nL own tb (zGt U D ad ca A (g + mc))) (n + mc) (k + ms) (pc + 3, lv, st, M')) : zGo (zCm p l e R s m args below meth c Q cc nL own tb (zGt U D ad ca A g)) n k (pc, lv, as.reverse ++ .inr (.inr (some r)) :: st, M) :=
  zcallI Z hM ⟨rfl, rfl, rfl, rfl⟩ (by omega) (zlastC hW hs hg hU) ho1 ho2 hw hin hy1 hn hR hroom hd hnk K
variable {G : zG}
theorem c_putR (Z : zOK (zCm p l e R s m args below meth c Q cc nL own tb G)) {kk i ss : Nat} {r : zR} (hU : (kk, i) ∈ zgU G) (h3 : kk < 13) (h4 : ss < zof kk) (h2 : zft kk ss = 2) (hf : tb.1.contains (idx, kk, ss) = true) (hfin : (zTt kk ss).2.2.2 = false ∨ (zTt kk ss).2.2.2 = true ∧ meth.name = "<init>" ∧ zRt kk = own) (hd : decode cc pc = .ok (.putfield idx, 3)) (K : zGo (zCm p l e R s m args below meth c Q cc nL own tb G) n k (pc + 3, lv, st, zwF M kk i ss r)) : zGo (zCm p l e R s m args below meth c Q cc nL own tb G) n k (pc, lv, .inr (.inr (some r)) :: .inr (.inr (some (kk, i))) :: st, M) := z_putR Z hU h3 h4 h2 hf hfin hd K
theorem c_putF (Z : zOK (zCm p l e R s m args below meth c Q cc nL own tb G)) {kk i ss : Nat} {x : Int32} (hU : (kk, i) ∈ zgU G) (h3 : kk < 13) (h4 : ss < zof kk) (h2 : zft kk ss = 0) (hf : tb.1.contains (idx, kk, ss) = true) (hfin : (zTt kk ss).2.2.2 = true ∧ meth.name = "<init>" ∧ zRt kk = own) (hd : decode cc pc = .ok (.putfield idx, 3)) (K : zGo (zCm p l e R s m args below meth c Q cc nL own tb G) n k (pc + 3, lv, st, zwI M kk i ss x)) : zGo (zCm p l e R s m args below meth c Q cc nL own tb G) n k (pc, lv, .inl x :: .inr (.inr (some (kk, i))) :: st, M) := z_putI Z hU h3 h4 h2 hf hfin hd K
theorem c_aast (Z : zOK (zCm p l e R s m args below meth c Q cc nL own tb G)) {ka i kv iv t : Nat} {j : Int32} (hU : (ka, i) ∈ zgU G) (hV : (kv, iv) ∈ zgU G) (ht : (zak ka).1 = t ∧ (t = 2 ∧ kv = 2 ∨ t = 3 ∧ kv = 9)) (hj : zin j (zak ka).2 = true) {jn : Nat} (hjn : j.toNatClampNeg = jn) (hd : decode cc pc = .ok (.aastore, 1)) (K : zGo (zCm p l e R s m args below meth c Q cc nL own tb G) n k (pc + 1, lv, st, zwF M ka i jn (kv, iv))) : zGo (zCm p l e R s m args below meth c Q cc nL own tb G) n k (pc, lv, .inr (.inr (some (kv, iv))) :: .inl j :: .inr (.inr (some (ka, i))) :: st, M) := z_aastG Z hU hV ht hj hd (by rw [hjn]; exact K)
/-- an int that is no final one -/
theorem c_putI (Z : zOK (zCm p l e R s m args below meth c Q cc nL own tb G)) {kk i ss : Nat} {x : Int32} (hU : (kk, i) ∈ zgU G) (h3 : kk < 13) (h4 : ss < zof kk) (h2 : zft kk ss = 0) (hf : tb.1.contains (idx, kk, ss) = true) (hfin : (zTt kk ss).2.2.2 = false) (hd : decode cc pc = .ok (.putfield idx, 3)) (K : zGo (zCm p l e R s m args below meth c Q cc nL own tb G) n k (pc + 3, lv, st, zwI M kk i ss x)) : zGo (zCm p l e R s m args below meth c Q cc nL own tb G) n k (pc, lv, .inl x :: .inr (.inr (some (kk, i))) :: st, M) := by
  obtain ⟨hx, hc, hml, hown, hts, hK, hG, htb, hE, hlocks⟩ := Z
  obtain ⟨q0, hq⟩ := List.getElem?_of_mem hU
  have h1 := List.contains_iff_mem.mp hf
  have hty := (ztag_ok kk h3 ss h4).1 h2
  intro H locs ls hP hS hl
  refine va_put (ty := .int) hx hc hts (zcl_in kk h3) (ztt kk) (zcl_ty kk h3) (zcl_nm kk h3) hown hK hP (zws_D hG M) hS q0 ((zws_at hq).trans (by rw [zcell_obj h3])) (zcl_at kk h3) ss h4 (hts _ (htb.1 _ h1)) (fun _ h => zsame kk h3 ss h4 ▸ h) hfin (by rw [zcl_ty kk h3 ss h4, hty]) rfl rfl (by simpa using h4) hd (fun H1 locs1 hP1 _ hS1 => ?_)
  rw [zws_set (M' := (zuI M.1 kk i ss x, M.2)) hG hq ?_ (fun q' hq' => zcell_uI hq')] at hP1
  · exact K H1 locs1 ls hP1 hS1 hl
  · rw [zcell_obj h3]
    congr 2
    refine zrange_set ?_ (fun j hj => ?_)
    · unfold zfv; rw [h2]; simp only [zuI_same]; rfl
    · unfold zfv; simp only [zuI_s hj]
theorem c_iast (Z : zOK (zCm p l e R s m args below meth c Q cc nL own tb G)) {kk i : Nat} {j x : Int32} (hU : (kk, i) ∈ zgU G) (e2 : (zak kk).1 = 0) (hj : zin j (zak kk).2 = true) {jn : Nat} (hjn : j.toNatClampNeg = jn) (hd : decode cc pc = .ok (.iastore, 1)) (K : zGo (zCm p l e R s m args below meth c Q cc nL own tb G) n k (pc + 1, lv, st, zwI M kk i jn x)) : zGo (zCm p l e R s m args below meth c Q cc nL own tb G) n k (pc, lv, .inl x :: .inl j :: .inr (.inr (some (kk, i))) :: st, M) := by
  obtain ⟨hx, hc, hml, hown, hts, hK, hG, htb, hE, hlocks⟩ := Z
  obtain ⟨q0, hq⟩ := List.getElem?_of_mem hU
  subst hjn
  intro H locs ls hP hS hl
  refine va_iast (tys := ztys (zgca G)) hx hc hK hP (zws_D hG M) hS q0 0 (cA := zgca G 0) (n := (zak kk).2) (f := fun j => M.1 kk i j) ((zws_at hq).trans ?_) rfl (zin_in hj) hd (fun H1 locs1 hP1 _ hS1 => ?_)
  · rw [zcell_arr (zak_arr (by rw [e2]; decide))]
    unfold zac
    rw [e2]; rfl
  · rw [zws_set (M' := (zuI M.1 kk i j.toNatClampNeg x, M.2)) hG hq ?_ (fun q' hq' => zcell_uI hq')] at hP1
    · exact K H1 locs1 ls hP1 hS1 hl
    · rw [zcell_arr (zak_arr (by rw [e2]; decide))]
      unfold zac
      rw [e2]
      show Sum.inl (zgca G 0, (zak kk).2, Sum.inl _) = Sum.inl (zgca G 0, (zak kk).2, Sum.inl _)
      rw [zupd_eq]
theorem c_getR (Z : zOK (zCm p l e R s m args below meth c Q cc nL own tb G)) {kk i ss : Nat} {r : zR} (hU : (kk, i) ∈ zgU G) (h3 : kk < 13) (h4 : ss < zof kk) (h2 : zft kk ss = 2) (hf : tb.1.contains (idx, kk, ss) = true) (hv : M.2.2 kk i ss = some r) (hd : decode cc pc = .ok (.getfield idx, 3)) (K : zGo (zCm p l e R s m args below meth c Q cc nL own tb G) n k (pc + 3, lv, .inr (.inr (some r)) :: st, M)) : zGo (zCm p l e R s m args below meth c Q cc nL own tb G) n k (pc, lv, .inr (.inr (some (kk, i))) :: st, M) := by
  obtain ⟨hx, hc, hml, hown, hts, hK, hG, htb, hE, hlocks⟩ := Z
  obtain ⟨q0, hq⟩ := List.getElem?_of_mem hU
  have h1 := List.contains_iff_mem.mp hf
  intro H locs ls hP hS hl
  refine va_get (v := va_rf ((M.2.2 kk i ss).map (zgad G))) hx hc hts (zcl_in kk h3) hown hK hP q0 ((zws_at hq).trans (by rw [zcell_obj h3])) (zcl_at kk h3) ss h4 (hts _ (htb.1 _ h1)) (fun _ h => zsame kk h3 ss h4 ▸ h) ?_ hd ?_
  · rw [List.getElem?_map, List.getElem?_range h4]
    simp only [Option.map_some, zfv]
    rw [h2]; rfl
  · rw [hv]; exact K H locs ls hP hS hl
end ZC3
section ZFILL
variable {l : Launch} {G : zG} {M : zM}
theorem zfl_step {M : zM} {k i n : Nat} {v : Int32} : zwI (zfl M k i n v) k i n v = zfl M k i (n + 1) v := by
  unfold zwI zfl
  congr 1
  funext k' i' s
  unfold zuI
  by_cases h1 : k' = k ∧ i' = i
  · by_cases h2 : s = n
    · simp [h1.1, h1.2, h2]
    · by_cases h3 : s < n
      · simp [h1.1, h1.2, h2, h3, Nat.lt_succ_of_lt h3]
      · have h4 : ¬ s < n + 1 := by omega
        simp [h1.1, h1.2, h2, h3, h4]
  · have a1 : ¬ (k' = k ∧ i' = i ∧ s = n) := fun h => h1 ⟨h.1, h.2.1⟩
    have a2 : ¬ (k' = k ∧ i' = i ∧ s < n) := fun h => h1 ⟨h.1, h.2.1⟩
    have a3 : ¬ (k' = k ∧ i' = i ∧ s < n + 1) := fun h => h1 ⟨h.1, h.2.1⟩
    show (if k' = k ∧ i' = i ∧ s = n then v else (if k' = k ∧ i' = i ∧ s < n then v else M.1 k' i' s)) = (if k' = k ∧ i' = i ∧ s < n + 1 then v else M.1 k' i' s)
    rw [if_neg a1, if_neg a2, if_neg a3]
theorem zfl_0 {M : zM} {k i : Nat} {v : Int32} : zfl M k i 0 v = M := by
  unfold zfl
  simp
/-- Arrays.fill(int[], int) on any row of the world -/
theorem c_fill (hG : zGok G) {kk i : Nat} {v : Int32} (hU : (kk, i) ∈ zgU G) (e2 : (zak kk).1 = 0) (hl : (zak kk).2 < 2 ^ 31) : zMet l G yJ7_fill_53178 cJ7_fill_53178 4 none 0 0 [.inr (.inr (some (kk, i))), .inl v] M none (zfl M kk i (zak kk).2 v) := by
  refine zMet_ofF hG (zTok0 RJ7) rfl (by decide +kernel) (Nat.le_of_ble_eq_true rfl) (fun X hX Z hA hE => ?_)
  refine zblq Z rfl [(.iconst 0, 1), (.istore 2, 1), (.aload 0, 1)] (S' := (3, [(0, .inr (.inr (some (kk, i)))), (1, .inl v), (2, .inl 0)], [.inr (.inr (some (kk, i)))], M)) (b := true) (by decide +kernel) rfl rfl ?_
  obtain ⟨p, l', e, R, s, m, args, below, meth, c, Q⟩ := X
  have Z0 := Z
  obtain ⟨hx, hc, hml, hown, hts, hK, hG, htb, hE2, hlocks⟩ := Z0
  obtain ⟨q0, hq⟩ := List.getElem?_of_mem hU
  have step1 : zGo (zCm p l' e R s m args below meth c Q cJ7_fill_53178 4 RJ7 ([], [], []) G) 0 0 (4, [(0, .inr (.inr (some (kk, i)))), (1, .inl v), (2, .inl 0)], [.inl (Int32.ofNat (zak kk).2)], M) → zGo (zCm p l' e R s m args below meth c Q cJ7_fill_53178 4 RJ7 ([], [], []) G) 0 0 (3, [(0, .inr (.inr (some (kk, i)))), (1, .inl v), (2, .inl 0)], [.inr (.inr (some (kk, i)))], M) := by
    intro K H locs ls hP hS hl
    refine va_alen (tys := ztys (zgca G)) hx hc hK hP q0 0 (x := zac (zgad G) M kk i) ((zws_at hq).trans ?_) rfl rfl (by show decode cJ7_fill_53178 3 = .ok (.arraylength, 1); decide +kernel) (K H locs ls hP hS hl)
    rw [zcell_arr (zak_arr (by rw [e2]; decide)), e2]
  refine step1 ?_
  refine zblq Z rfl [(.istore 3, 1)] (S' := (5, [(0, .inr (.inr (some (kk, i)))), (1, .inl v), (2, .inl 0), (3, .inl (Int32.ofNat (zak kk).2))], [], M)) (b := true) (by decide +kernel) rfl rfl ?_
  have loop : ∀ (d j : Nat), j + d = (zak kk).2 → zGo (zCm p l' e R s m args below meth c Q cJ7_fill_53178 4 RJ7 ([], [], []) G) 0 0 (5, [(0, .inr (.inr (some (kk, i)))), (1, .inl v), (2, .inl (nI j)), (3, .inl (Int32.ofNat (zak kk).2))], [], zfl M kk i j v) := by
    intro d
    induction d with
    | zero =>
      intro j hj
      refine zblq Z rfl [(.iload 2, 1), (.iload 3, 1)] (S' := (7, [(0, .inr (.inr (some (kk, i)))), (1, .inl v), (2, .inl (nI j)), (3, .inl (Int32.ofNat (zak kk).2))], [.inl (Int32.ofNat (zak kk).2), .inl (nI j)], zfl M kk i j v)) (b := true) (by decide +kernel) rfl rfl ?_
      refine zic_ge Z (off := 13) (tgt := 20) (by decide +kernel) (by decide) (fun _ => ?_) (fun h => absurd (nI_le (by omega) (by omega)) h)
      have hj : j = (zak kk).2 := by omega
      subst hj
      exact zret_v Z hA hE (by decide +kernel)
    | succ d ih =>
      intro j hj
      refine zblq Z rfl [(.iload 2, 1), (.iload 3, 1)] (S' := (7, [(0, .inr (.inr (some (kk, i)))), (1, .inl v), (2, .inl (nI j)), (3, .inl (Int32.ofNat (zak kk).2))], [.inl (Int32.ofNat (zak kk).2), .inl (nI j)], zfl M kk i j v)) (b := true) (by decide +kernel) rfl rfl ?_
      refine zic_ge Z (off := 13) (tgt := 20) (by decide +kernel) (by decide) (fun h => absurd h (nI_ge (by omega) hl)) (fun _ => ?_)
      refine zblq Z rfl [(.aload 0, 1), (.iload 2, 1), (.iload 1, 1)] (S' := (13, [(0, .inr (.inr (some (kk, i)))), (1, .inl v), (2, .inl (nI j)), (3, .inl (Int32.ofNat (zak kk).2))], [.inl v, .inl (nI j), .inr (.inr (some (kk, i)))], zfl M kk i j v)) (b := true) (by decide +kernel) rfl rfl ?_
      refine c_iast Z hU e2 ?_ (nI_clamp (by omega)) (by decide +kernel) ?_
      · unfold zin
        rw [decide_eq_false (nI_pos (by omega)), nI_clamp (by omega)]
        exact zblt_t.mpr (by omega)
      · rw [zfl_step]
        refine zblq Z rfl [(.iinc 2 1, 3), (.ldc 5, 3)] (S' := (5, [(0, .inr (.inr (some (kk, i)))), (1, .inl v), (2, .inl (nI j + Int32.ofInt 1)), (3, .inl (Int32.ofNat (zak kk).2))], [], zfl M kk i (j + 1) v)) (b := true) (by decide +kernel) rfl rfl ?_
        rw [show nI j + Int32.ofInt 1 = nI (j + 1) from nI_1 j]
        exact ih (j + 1) (by omega)
  have := loop (zak kk).2 0 (by omega)
  rw [zfl_0] at this
  exact this
end ZFILL
