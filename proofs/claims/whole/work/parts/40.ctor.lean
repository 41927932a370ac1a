/-! making: objects and rows come one behind the other, at addresses that are told ahead -/
def zclr (M : zM) (k i : Nat) : zM := (fun k' i' s => if k' = k ∧ i' = i then 0 else M.1 k' i' s, fun k' i' s => if k' = k ∧ i' = i then 0 else M.2.1 k' i' s, fun k' i' s => if k' = k ∧ i' = i then none else M.2.2 k' i' s)
def zuF (f : Nat → Nat → Nat → Option zR) (k i s : Nat) (v : Option zR) : Nat → Nat → Nat → Option zR := fun k' i' s' => if k' = k ∧ i' = i ∧ s' = s then v else f k' i' s'
/-- the world with one cell more -/
def zGx (G : zG) (r : zR) (cn : Nat → Nat) : zG := (zgD G, zgad G, zgca G, zgA G, zgU G ++ [r], cn)
abbrev zXs (X : zX) : State := X.2.2.2.2.1
theorem zdef_ok : ∀ k, k < 13 → ∀ j, j < zof k → defaultValue (ztt k j) = (match zft k j with
  | 1 => Value.long 0
  | 2 => Value.null
  | _ => Value.int 0) := by decide +kernel
theorem zclr_ne {M : zM} {k i : Nat} {ad : zR → Nat} {ca : Nat → ClassId} {q' : zR} (h : q' ≠ (k, i)) : zcell ad ca (zclr M k i) q' = zcell ad ca M q' := by
  obtain ⟨k', i'⟩ := q'
  have hn : ¬ (k' = k ∧ i' = i) := fun e => h (by rw [e.1, e.2])
  unfold zcell zac zfv zclr
  simp only [if_neg hn]
theorem zGx_fresh {G : zG} {r : zR} {cn : Nat → Nat} (h : zGok (zGx G r cn)) : r ∉ zgU G := by
  intro hr
  obtain ⟨j, hj⟩ := List.getElem?_of_mem hr
  have hl := (List.getElem?_eq_some_iff.mp hj).1
  have h1 : (zgU G ++ [r])[j]? = some r := by rw [List.getElem?_append_left hl]; exact hj
  have h2 : (zgU G ++ [r])[(zgU G).length]? = some r := by simp
  have e := h.1 j (zgU G).length r r h1 h2 rfl
  omega
theorem zGx_ws {G : zG} {r : zR} {cn : Nat → Nat} (h : zGok (zGx G r cn)) (M : zM) : zws (zGx G r cn) (zclr M r.1 r.2) = zws G M ++ [(zgad G r, zcell (zgad G) (zgca G) (zclr M r.1 r.2) r)] := by
  unfold zws
  show (zgU G ++ [r]).map _ = _
  rw [List.map_append]
  congr 1
  refine List.map_congr_left fun q hq => ?_
  show (zgad G q, zcell (zgad G) (zgca G) (zclr M r.1 r.2) q) = _
  have hne : q ≠ (r.1, r.2) := fun e => zGx_fresh h (by rw [show r = q from e.symm]; exact hq)
  rw [zclr_ne hne]
theorem zOK_x {X : zX} {q : ByteArray × Nat × String × zT} {G : zG} {r : zR} {cn : Nat → Nat} (Z : zOK (X, q, G)) (h : zGok (zGx G r cn)) : zOK (X, q, zGx G r cn) := by
  obtain ⟨p, l, e, R, s, m, args, below, meth, c, Q⟩ := X
  obtain ⟨cc, nL, own, tb⟩ := q
  obtain ⟨hx, hc, hml, hown, hts, hK, hG, htb, hE, hlocks⟩ := Z
  exact ⟨hx, hc, hml, hown, hts, hK, h, htb, hE, hlocks⟩
section ZMK
variable {p : Program} {l : Launch} {e : Env} {R : Room} {s : State} {m : MethodId} {args : Array Value} {below : List Frame} {meth : Method} {c : Code} {Q : State → Prop} {cc : ByteArray} {nL : Nat} {own : String} {tb : zT} {G : zG} {n k pc idx : Nat} {lv : zLv} {st : List zV} {M : zM} {cn : Nat → Nat}
/-- how far the heap goes -/
theorem zsize {H : Heap} {locs : List Loc} {T : State} (hT : T.heap = H) (Xs : Stand p l e R s m args below meth c T locs n k) (hP : va_P (zgD G) vwCl (zws G M) H) (hS : va_S (zgA G) s.heap H locs) (hlast : n = 0 ∨ ∃ q ∈ zgU G, zgad G q + 1 = s.heap.size + n) : H.size = s.heap.size + n := by
  have h1 : T.heap.size ≤ s.heap.size + n := Xs.same.2.2.1
  rw [hT] at h1
  rcases hlast with h0 | ⟨q, hq, he⟩
  · have := hS.1
    omega
  · obtain ⟨j, hj⟩ := List.getElem?_of_mem hq
    have h2 : zgad G q < H.size := (hP j _ (zws_at hj)).lt
    omega
theorem z_new (Z : zOK (zCm p l e R s m args below meth c Q cc nL own tb G)) {kk i : Nat} (hG' : zGok (zGx G (kk, i) cn)) (hk : kk < 13) (had : zgad G (kk, i) = s.heap.size + n) (hlast : n = 0 ∨ ∃ q ∈ zgU G, zgad G q + 1 = s.heap.size + n) (hA : ∀ x, s.heap.size ≤ x → zgA G x) (hcl : Cond.classLink own idx (zRt kk) ∈ zt) (hins : Cond.instantiable (zRt kk) (zof kk) ∈ zt) (hini : Cond.initialized (zRt kk) ∈ zt) (hR : n + 1 ≤ R.cells ∧ k + zof kk ≤ R.slots) (hd : decode cc pc = .ok (.new idx, 3))
    (K : zGo (zCm p l e R s m args below meth c Q cc nL own tb (zGx G (kk, i) cn)) (n + 1) (k + zof kk) (pc + 3, lv, .inr (.inr (some (kk, i))) :: st, zclr M kk i)) : zGo (zCm p l e R s m args below meth c Q cc nL own tb G) n k (pc, lv, st, M) := by
  obtain ⟨hx, hc, hml, hown, hts, hK, hG, htb, hE, hlocks⟩ := Z
  intro H locs ls hP hS hl T hT Xs
  have hsz := zsize hT Xs hP hS hlast
  have hKn := hK.1 kk _ (zcl_at kk hk)
  suffices w : W p l e R s m args below meth c H locs n k Q (F0 m pc ls (st.map (zval (zgad G)))) from w T hT Xs
  refine W.newcK hx hc hown (hts _ hcl) (hts _ hins) (hts _ hini) rfl hd hR.1 hR.2 hKn.2.1 (hsz.trans had.symm) (fun H1 kC hkC e1 z1 o1 => ?_)
  have hq : H.size = zgad G (kk, i) := hsz.trans had.symm
  have o1 : ∀ q : Nat, q < H.size → H1[q]? = H[q]? := fun q h => o1 q (hq ▸ h)
  have hk' : ∀ (k : Nat) (x : Nat × va_E), (zws G M)[k]? = some x → H1[x.1]? = H[x.1]? := fun k x hx => o1 x.1 ((hP k x hx).lt)
  refine K H1 locs ls ?_ ⟨Nat.le_trans hS.1 (by omega), fun x h1 h2 => (o1 x (Nat.lt_of_lt_of_le h1 hS.1)).trans (hS.2.1 x h1 h2), hS.2.2⟩ hl
  show va_P (zgD G) vwCl (zws (zGx G (kk, i) cn) (zclr M kk i)) H1
  rw [zGx_ws hG']
  refine (hP.kept hk').app (fun j x hx => ?_)
  have hz : j < 1 := (List.getElem?_eq_some_iff.mp hx).1
  rw [show j = 0 by omega] at hx
  cases hx
  show va_at _ _ (zgad G (kk, i), zcell (zgad G) (zgca G) (zclr M kk i) (kk, i)) H1
  rw [zcell_obj hk]
  refine ⟨_, zcl_at kk hk, (u_born (ztt kk) hts (zcl_in kk hk) hKn hkC e1 (zcl_ty kk hk)).to (fun j hj => ?_)⟩
  have hj : j < zof kk := hj
  have e2 : vp_V ((List.range (zof kk)).map (zfv (zgad G) (zclr M kk i) kk i)) j = zfv (zgad G) (zclr M kk i) kk i j := by
    unfold vp_V
    rw [List.getD_eq_getElem?_getD, List.getElem?_map, List.getElem?_range hj]; rfl
  rw [e2, zdef_ok kk hk j hj]
  unfold zfv zclr
  simp only [and_self, if_true]
  rfl
theorem z_newa (Z : zOK (zCm p l e R s m args below meth c Q cc nL own tb G)) {kk i : Nat} {t : Nat} {at' : ArrayType} (ht : t = 0 ∧ at' = .int ∨ t = 1 ∧ at' = .boolean) (hG' : zGok (zGx G (kk, i) cn)) (hk : (zak kk).1 = t) (had : zgad G (kk, i) = s.heap.size + n) (hlast : n = 0 ∨ ∃ q ∈ zgU G, zgad G q + 1 = s.heap.size + n) (hA : ∀ x, s.heap.size ≤ x → zgA G x) (har : Cond.arrayClass (newarray.typeOf at') ∈ zt) {N : Int32} (hN : decide (N < 0) = false ∧ N.toNatClampNeg = (zak kk).2 ∧ Nat.ble ((zak kk).2 * 4) 536870912 = true) (hR : n + 1 ≤ R.cells ∧ k + (zak kk).2 ≤ R.slots) (hd : decode cc pc = .ok (.newarray at', 2))
    (K : zGo (zCm p l e R s m args below meth c Q cc nL own tb (zGx G (kk, i) cn)) (n + 1) (k + (zak kk).2) (pc + 2, lv, .inr (.inr (some (kk, i))) :: st, zclr M kk i)) : zGo (zCm p l e R s m args below meth c Q cc nL own tb G) n k (pc, lv, .inl N :: st, M) := by
  obtain ⟨hx, hc, hml, hown, hts, hK, hG, htb, hE, hlocks⟩ := Z
  have hk13 : ¬ kk < 13 := zak_arr (by rcases ht with ⟨rfl, -⟩ | ⟨rfl, -⟩ <;> rw [hk] <;> decide)
  have hb4 := Nat.le_of_ble_eq_true hN.2.2
  intro H locs ls hP hS hl T hT Xs
  have hsz := zsize hT Xs hP hS hlast
  have hcb : (zak kk).2 * componentBytes (newarray.typeOf at') ≤ 536870912 := by
    have hc4 : componentBytes (newarray.typeOf at') ≤ 4 := by rcases ht with ⟨-, rfl⟩ | ⟨-, rfl⟩ <;> decide
    exact Nat.le_trans (Nat.mul_le_mul_left _ hc4) hb4
  suffices w : W p l e R s m args below meth c H locs n k Q (F0 m pc ls (.int N :: st.map (zval (zgad G)))) from w T hT Xs
  refine va_newaK (N := (zak kk).2) hx hc (hts _ har) rfl hd rfl (of_decide_eq_false hN.1) hN.2.1 hcb hR.1 hR.2 (hsz.trans had.symm) (fun H1 cA e1 z1 o1 hAr hNm => ?_)
  have hq : H.size = zgad G (kk, i) := hsz.trans had.symm
  have o1 : ∀ q : Nat, q < H.size → H1[q]? = H[q]? := fun q h => o1 q (hq ▸ h)
  have hk' : ∀ (k : Nat) (x : Nat × va_E), (zws G M)[k]? = some x → H1[x.1]? = H[x.1]? := fun k x hx => o1 x.1 ((hP k x hx).lt)
  have hcA : cA = zgca G t := by
    rcases ht with ⟨rfl, rfl⟩ | ⟨rfl, rfl⟩
    · exact Option.some.inj (hNm.symm.trans (hK.2 0 _ rfl).2)
    · exact Option.some.inj (hNm.symm.trans (hK.2 1 _ rfl).2)
  refine K H1 locs ls ?_ ⟨Nat.le_trans hS.1 (by omega), fun x h1 h2 => (o1 x (Nat.lt_of_lt_of_le h1 hS.1)).trans (hS.2.1 x h1 h2), hS.2.2⟩ hl
  show va_P (zgD G) vwCl (zws (zGx G (kk, i) cn) (zclr M kk i)) H1
  rw [zGx_ws hG']
  refine (hP.kept hk').app (fun j x hx => ?_)
  have hz : j < 1 := (List.getElem?_eq_some_iff.mp hx).1
  rw [show j = 0 by omega] at hx
  cases hx
  show va_at _ _ (zgad G (kk, i), zcell (zgad G) (zgca G) (zclr M kk i) (kk, i)) H1
  rw [zcell_arr hk13, hk, ← hcA]
  show H1[zgad G (kk, i)]? = some (vp_cell cA (zac (zgad G) (zclr M kk i) kk i))
  rw [e1]
  congr 1
  unfold zac zclr
  rcases ht with ⟨rfl, rfl⟩ | ⟨rfl, rfl⟩
  · rw [hk]; simp only [and_self, if_true]; rfl
  · rw [hk]; simp only [and_self, if_true]; rfl
theorem z_newq (Z : zOK (zCm p l e R s m args below meth c Q cc nL own tb G)) {kk i : Nat} {t : Nat} {C0 : String} (ht : t = 2 ∧ C0 = "EarField$Box" ∨ t = 3 ∧ C0 = "EarField$Sum") (hG' : zGok (zGx G (kk, i) cn)) (hk : (zak kk).1 = t) (had : zgad G (kk, i) = s.heap.size + n) (hlast : n = 0 ∨ ∃ q ∈ zgU G, zgad G q + 1 = s.heap.size + n) (hA : ∀ x, s.heap.size ≤ x → zgA G x) (hcl : Cond.classLink own idx C0 ∈ zt) (hov : va_AO C0 s) {N : Int32} (hN : decide (N < 0) = false ∧ N.toNatClampNeg = (zak kk).2 ∧ Nat.ble ((zak kk).2 * 4) 536870912 = true) (hR : n + 1 ≤ R.cells ∧ k + (zak kk).2 ≤ R.slots) (hd : decode cc pc = .ok (.anewarray idx, 3))
    (K : zGo (zCm p l e R s m args below meth c Q cc nL own tb (zGx G (kk, i) cn)) (n + 1) (k + (zak kk).2) (pc + 3, lv, .inr (.inr (some (kk, i))) :: st, zclr M kk i)) : zGo (zCm p l e R s m args below meth c Q cc nL own tb G) n k (pc, lv, .inl N :: st, M) := by
  obtain ⟨hx, hc, hml, hown, hts, hK, hG, htb, hE, hlocks⟩ := Z
  have hk13 : ¬ kk < 13 := zak_arr (by rcases ht with ⟨rfl, -⟩ | ⟨rfl, -⟩ <;> rw [hk] <;> decide)
  have hb4 := Nat.le_of_ble_eq_true hN.2.2
  obtain ⟨hn0, hN1, -⟩ := hN
  intro H locs ls hP hS hl T hT Xs
  have hsz := zsize hT Xs hP hS hlast
  suffices w : W p l e R s m args below meth c H locs n k Q (F0 m pc ls (.int N :: st.map (zval (zgad G)))) from w T hT Xs
  refine W.anew hx hc hown (hts _ hcl) (va_AO.use hov) rfl hd rfl (of_decide_eq_false hn0) (by rw [hN1]; exact hb4) hR.1 (by rw [hN1]; exact hR.2) (fun cA kA comp f1 f2 f3 f4 => ?_)
  rw [hN1]
  generalize hH1 : H.push ({ cls := cA, slots := Array.replicate (zak kk).2 .null, vm := .none } : Cell) = H1
  have z1 : H1.size = H.size + 1 := by rw [← hH1, Array.size_push]
  have e1 : H1[H.size]? = some (arrV cA (zak kk).2 (fun _ => .null)) := by rw [← hH1, Array.getElem?_push_size, ← arrV_new]
  have o1 : ∀ q : Nat, q < H.size → H1[q]? = H[q]? := fun q hq => by rw [← hH1, Array.getElem?_push, if_neg (Nat.ne_of_lt hq)]
  have hk' : ∀ (k : Nat) (x : Nat × va_E), (zws G M)[k]? = some x → H1[x.1]? = H[x.1]? := fun k x hx => o1 x.1 ((hP k x hx).lt)
  have hcA : cA = zgca G t := by
    rcases ht with ⟨rfl, rfl⟩ | ⟨rfl, rfl⟩
    · obtain ⟨kA2, comp2, q1, q2, q3, q4⟩ := (hK.2 2 _ rfl).2
      exact Option.some.inj (f1.symm.trans q4)
    · obtain ⟨kA2, comp2, q1, q2, q3, q4⟩ := (hK.2 3 _ rfl).2
      exact Option.some.inj (f1.symm.trans q4)
  have hq : H.size = zgad G (kk, i) := hsz.trans had.symm
  rw [hq] at e1
  show W p l e R s m args below meth c H1 locs (n + 1) (k + (zak kk).2) Q (F0 m (pc + 3) ls (Value.ref H.size :: st.map (zval (zgad G))))
  rw [hq]
  refine K H1 locs ls ?_ ⟨Nat.le_trans hS.1 (by omega), fun x h1 h2 => (o1 x (Nat.lt_of_lt_of_le h1 hS.1)).trans (hS.2.1 x h1 h2), hS.2.2⟩ hl
  show va_P (zgD G) vwCl (zws (zGx G (kk, i) cn) (zclr M kk i)) H1
  rw [zGx_ws hG']
  refine (hP.kept hk').app (fun j x hx => ?_)
  have hz : j < 1 := (List.getElem?_eq_some_iff.mp hx).1
  rw [show j = 0 by omega] at hx
  cases hx
  show va_at _ _ (zgad G (kk, i), zcell (zgad G) (zgca G) (zclr M kk i) (kk, i)) H1
  rw [zcell_arr hk13, hk, ← hcA]
  show H1[zgad G (kk, i)]? = some (vp_cell cA (zac (zgad G) (zclr M kk i) kk i))
  rw [e1]
  congr 1
  unfold zac zclr
  rcases ht with ⟨rfl, rfl⟩ | ⟨rfl, rfl⟩
  · rw [hk]; simp only [and_self, if_true]; rfl
  · rw [hk]; simp only [and_self, if_true]; rfl
end ZMK
