/-! constructors: fields, calls, ends -/
theorem ztag_ref : ∀ k, k < 13 → ∀ j, j < zof k → zft k j = 2 → (match ztt k j with
  | .object _ => true
  | .array _ => true
  | _ => false) = true := by decide +kernel
theorem zref_nf {ty : FieldType} (h : (match ty with
  | .object _ => true
  | .array _ => true
  | _ => false) = true) (a : Nat) : narrow ty (.ref a) = .ref a ∧ fits ty (.ref a) = true := by
  cases ty <;> first | (cases h; done) | exact ⟨rfl, rfl⟩
theorem zcell_uF {ad : zR → Nat} {ca : Nat → ClassId} {I : Nat → Nat → Nat → Int32} {L : Nat → Nat → Nat → Int64} {F : Nat → Nat → Nat → Option zR} {k i s : Nat} {v : Option zR} {q' : zR} (h : q' ≠ (k, i)) : zcell ad ca (I, L, zuF F k i s v) q' = zcell ad ca (I, L, F) q' := by
  obtain ⟨k', i'⟩ := q'
  have e : ∀ j, zuF F k i s v k' i' j = F k' i' j := by
    intro j
    unfold zuF
    rw [if_neg]
    rintro ⟨rfl, rfl, -⟩
    exact h rfl
  unfold zcell zac zfv
  simp only [e]
section ZPF
variable {p : Program} {l : Launch} {e : Env} {R : Room} {s : State} {m : MethodId} {args : Array Value} {below : List Frame} {meth : Method} {c : Code} {Q : State → Prop} {cc : ByteArray} {nL : Nat} {own : String} {tb : zT} {G : zG} {n k pc idx : Nat} {lv : zLv} {st : List zV} {M : zM} {cn : Nat → Nat}
/-- a reference into a field -/
theorem z_putR (Z : zOK (zCm p l e R s m args below meth c Q cc nL own tb G)) {kk i ss : Nat} {r : zR} (hU : (kk, i) ∈ zgU G) (h3 : kk < 13) (h4 : ss < zof kk) (h2 : zft kk ss = 2) (hf : tb.1.contains (idx, kk, ss) = true) (hfin : (zTt kk ss).2.2.2 = false ∨ (zTt kk ss).2.2.2 = true ∧ meth.name = "<init>" ∧ zRt kk = own) (hd : decode cc pc = .ok (.putfield idx, 3)) (K : zGo (zCm p l e R s m args below meth c Q cc nL own tb G) n k (pc + 3, lv, st, (M.1, M.2.1, zuF M.2.2 kk i ss (some r)))) : zGo (zCm p l e R s m args below meth c Q cc nL own tb G) n k (pc, lv, .inr (.inr (some r)) :: .inr (.inr (some (kk, i))) :: st, M) := by
  obtain ⟨hx, hc, hml, hown, hts, hK, hG, htb, hE, hlocks⟩ := Z
  obtain ⟨q0, hq⟩ := List.getElem?_of_mem hU
  have h1 := List.contains_iff_mem.mp hf
  obtain ⟨hna, hfi⟩ := zref_nf (ztag_ref kk h3 ss h4 h2) (zgad G r)
  intro H locs ls hP hS hl
  have fin : ∀ (H1 : Heap) (locs1 : List Loc), va_P (zgD G) vwCl ((zws G M).set q0 (zgad G (kk, i), .inr (kk, ((List.range (zof kk)).map (zfv (zgad G) M kk i)).set ss (.ref (zgad G r))))) H1 → va_S (zgA G) s.heap H1 locs1 → W p l e R s m args below meth c H1 locs1 n k Q (F0 m (pc + 3) ls (st.map (zval (zgad G)))) := by
    intro H1 locs1 hP1 hS1
    rw [zws_set (M' := (M.1, M.2.1, zuF M.2.2 kk i ss (some r))) hG hq ?_ (fun q' hq' => zcell_uF hq')] at hP1
    · exact K H1 locs1 ls hP1 hS1 hl
    · rw [zcell_obj h3]
      congr 2
      refine zrange_set ?_ (fun j hj => ?_)
      · unfold zfv; rw [h2]; simp [zuF, va_rf]
      · unfold zfv zuF; simp only [hj, and_false, if_false]
  have hz : (zws G M)[q0]? = some (zgad G (kk, i), .inr (kk, (List.range (zof kk)).map (zfv (zgad G) M kk i))) := (zws_at hq).trans (by rw [zcell_obj h3])
  rcases hfin with hfin | ⟨hfin, hin, hdecl⟩
  · exact va_put hx hc hts (zcl_in kk h3) (ztt kk) (zcl_ty kk h3) (zcl_nm kk h3) hown hK hP (zws_D hG M) hS q0 hz (zcl_at kk h3) ss h4 (hts _ (htb.1 _ h1)) (fun _ h => zsame kk h3 ss h4 ▸ h) hfin (zcl_ty kk h3 ss h4) hna hfi (by simpa using h4) hd (fun H1 locs1 hP1 _ hS1 => fin H1 locs1 hP1 hS1)
  · exact va_putF hx hc hts (zcl_in kk h3) (ztt kk) (zcl_ty kk h3) (zcl_nm kk h3) hown hK hP (zws_D hG M) hS q0 hz (zcl_at kk h3) ss h4 (hts _ (htb.1 _ h1)) (fun _ h => zsame kk h3 ss h4 ▸ h) hfin hin (by rw [zsame kk h3 ss h4]; exact hdecl) (zcl_ty kk h3 ss h4) hna hfi (by simpa using h4) hd (fun H1 locs1 hP1 _ hS1 => fin H1 locs1 hP1 hS1)
/-- a final int -/
theorem z_putI (Z : zOK (zCm p l e R s m args below meth c Q cc nL own tb G)) {kk i ss : Nat} {x : Int32} (hU : (kk, i) ∈ zgU G) (h3 : kk < 13) (h4 : ss < zof kk) (h2 : zft kk ss = 0) (hf : tb.1.contains (idx, kk, ss) = true) (hfin : (zTt kk ss).2.2.2 = true ∧ meth.name = "<init>" ∧ zRt kk = own) (hd : decode cc pc = .ok (.putfield idx, 3)) (K : zGo (zCm p l e R s m args below meth c Q cc nL own tb G) n k (pc + 3, lv, st, (zuI M.1 kk i ss x, M.2))) : zGo (zCm p l e R s m args below meth c Q cc nL own tb G) n k (pc, lv, .inl x :: .inr (.inr (some (kk, i))) :: st, M) := by
  obtain ⟨hx, hc, hml, hown, hts, hK, hG, htb, hE, hlocks⟩ := Z
  obtain ⟨q0, hq⟩ := List.getElem?_of_mem hU
  have h1 := List.contains_iff_mem.mp hf
  have hty := (ztag_ok kk h3 ss h4).1 h2
  obtain ⟨hfin, hin, hdecl⟩ := hfin
  intro H locs ls hP hS hl
  have hz : (zws G M)[q0]? = some (zgad G (kk, i), .inr (kk, (List.range (zof kk)).map (zfv (zgad G) M kk i))) := (zws_at hq).trans (by rw [zcell_obj h3])
  refine va_putF (ty := .int) hx hc hts (zcl_in kk h3) (ztt kk) (zcl_ty kk h3) (zcl_nm kk h3) hown hK hP (zws_D hG M) hS q0 hz (zcl_at kk h3) ss h4 (hts _ (htb.1 _ h1)) (fun _ h => zsame kk h3 ss h4 ▸ h) hfin hin (by rw [zsame kk h3 ss h4]; exact hdecl) (by rw [zcl_ty kk h3 ss h4, hty]) rfl rfl (by simpa using h4) hd (fun H1 locs1 hP1 _ hS1 => ?_)
  rw [zws_set (M' := (zuI M.1 kk i ss x, M.2)) hG hq ?_ (fun q' hq' => zcell_uI hq')] at hP1
  · exact K H1 locs1 ls hP1 hS1 hl
  · rw [zcell_obj h3]
    congr 2
    refine zrange_set ?_ (fun j hj => ?_)
    · unfold zfv; rw [h2]; simp only [zuI_same]; rfl
    · unfold zfv; simp only [zuI_s hj]
/-- a reference into a row -/
theorem z_aastG (Z : zOK (zCm p l e R s m args below meth c Q cc nL own tb G)) {ka i kv iv t : Nat} {j : Int32} (hU : (ka, i) ∈ zgU G) (hV : (kv, iv) ∈ zgU G) (ht : (zak ka).1 = t ∧ (t = 2 ∧ kv = 2 ∨ t = 3 ∧ kv = 9)) (hj : zin j (zak ka).2 = true) (hd : decode cc pc = .ok (.aastore, 1)) (K : zGo (zCm p l e R s m args below meth c Q cc nL own tb G) n k (pc + 1, lv, st, (M.1, M.2.1, zuF M.2.2 ka i j.toNatClampNeg (some (kv, iv))))) : zGo (zCm p l e R s m args below meth c Q cc nL own tb G) n k (pc, lv, .inr (.inr (some (kv, iv))) :: .inl j :: .inr (.inr (some (ka, i))) :: st, M) := by
  obtain ⟨hx, hc, hml, hown, hts, hK, hG, htb, hE, hlocks⟩ := Z
  obtain ⟨q0, hq⟩ := List.getElem?_of_mem hU
  obtain ⟨q1, hq1⟩ := List.getElem?_of_mem hV
  obtain ⟨ht1, ht2⟩ := ht
  have hk13 : ¬ ka < 13 := zak_arr (by rcases ht2 with ⟨rfl, -⟩ | ⟨rfl, -⟩ <;> rw [ht1] <;> decide)
  have hkv : kv < 13 := by rcases ht2 with ⟨-, rfl⟩ | ⟨-, rfl⟩ <;> decide
  intro H locs ls hP hS hl
  refine va_astq (tys := ztys (zgca G)) hx hc hK hP (zws_D hG M) hS q0 t q1 kv (cA := zgca G t) (r := (zRt kv, zTt kv, zof kv)) (n := (zak ka).2) (f := fun j => (M.2.2 ka i j).map (zgad G)) ((zws_at hq).trans ?_) ?_ ((zws_at hq1).trans (by rw [zcell_obj hkv])) (zcl_at kv hkv) (zin_in hj) hd (fun H1 locs1 hP1 _ hS1 => ?_)
  · rw [zcell_arr hk13, ht1]
    unfold zac
    rw [ht1]
    rcases ht2 with ⟨rfl, -⟩ | ⟨rfl, -⟩ <;> rfl
  · rcases ht2 with ⟨rfl, rfl⟩ | ⟨rfl, rfl⟩ <;> rfl
  · rw [zws_set (M' := (M.1, M.2.1, zuF M.2.2 ka i j.toNatClampNeg (some (kv, iv)))) hG hq ?_ (fun q' hq' => zcell_uF hq')] at hP1
    · exact K H1 locs1 ls hP1 hS1 hl
    · rw [zcell_arr hk13, ht1]
      unfold zac
      rw [ht1]
      have e : va_up (fun j => (M.2.2 ka i j).map (zgad G)) j.toNatClampNeg (some (zgad G (kv, iv))) = fun j' => (zuF M.2.2 ka i j.toNatClampNeg (some (kv, iv)) ka i j').map (zgad G) := by
        funext s'
        by_cases hs : s' = j.toNatClampNeg
        · subst hs; simp [va_up, zuF]
        · simp [va_up, zuF, hs]
      rw [e]
      rcases ht2 with ⟨rfl, -⟩ | ⟨rfl, -⟩ <;> rfl
/-- Object() -/
theorem z_obj (Z : zOK (zCm p l e R s m args below meth c Q cc nL own tb G)) {r : zR} (hlink : Cond.methodLink own idx Lib.objectInit ∈ zt) (hinst : Cond.instanceMethod Lib.objectInit ∈ zt) (hcode : Cond.code Lib.objectInit ⟨#[0xb1]⟩ 1 none ∈ zt) (hR : 1 ≤ R.frames ∧ zwid st + 12 ≤ R.locals) (hd : decode cc pc = .ok (.invokespecial idx, 3)) (K : zGo (zCm p l e R s m args below meth c Q cc nL own tb G) n k (pc + 3, lv, st, M)) : zGo (zCm p l e R s m args below meth c Q cc nL own tb G) n k (pc, lv, .inr (.inr (some r)) :: st, M) := by
  obtain ⟨hx, hc, hml, hown, hts, hK, hG, htb, hE, hlocks⟩ := Z
  intro H locs ls hP hS hl
  refine W.objInit hx hc hown (hts _ hlink) (hts _ hinst) (hts _ hcode) rfl (hl.1.trans hml.symm) (a := zgad G r) (rest := st.map (zval (zgad G))) rfl hd hR.1 ?_ (K H locs ls hP hS hl)
  rw [zcat_sum]
  show 0 + zwid st + 12 ≤ R.locals
  omega
end ZPF
def zPreC (G : zG) (M : zM) (sz : Nat) (u : State) : Prop := zPre G M u ∧ u.heap.size = sz ∧ va_AO "EarField$Box" u ∧ va_AO "EarField$Sum" u
/-- a constructor's contract: it makes mc cells of ms places; the heap begins at sz -/
def zMetC (l : Launch) (y : MethodName) (bytes : ByteArray) (maxL fr mc ms lo : Nat) (as : List zV) (sz : Nat) (G : zG) (M : zM) (G' : zG) (M' : zM) : Prop := Met l y (.code y bytes maxL none :: zt) { frames := fr, cells := mc, slots := ms, locals := lo } (va_Pc (as.map (zval (zgad G))) (zPreC G M sz)) (zPost G' none M') mc ms (zgA G)
def zAtC : zX → Nat → Nat → Nat → Nat → Nat → Prop := fun ⟨_, _, _, R, s, _, _, _, meth, _, _⟩ fr mc ms lo sz => R = { frames := fr, cells := mc, slots := ms, locals := lo } ∧ meth.sig.returnType = none ∧ meth.name = "<init>" ∧ s.heap.size = sz ∧ va_AO "EarField$Box" s ∧ va_AO "EarField$Sum" s
def zEndC : zX → Nat → Nat → zG → zM → Prop := fun ⟨_, _, _, _, s, _, args, below, _, _, Q⟩ mc ms G' M' => Q = MQ below (zPost G' none M') args s mc ms (zgA G')
theorem zPreC_blind (G : zG) (M : zM) (sz : Nat) (av : List Value) : FrameBlind (va_Pc av (zPreC G M sz)) := by
  intro a U g mk h
  obtain ⟨h0, h1, h2, h3, h4⟩ := h
  exact ⟨h0, (zPre_blind G M av a U g mk ⟨h0, h1⟩).2, h2, va_AO.moved (u := U) (Vm.Alike.refl U.vm) h3, va_AO.moved (u := U) (Vm.Alike.refl U.vm) h4⟩
theorem zMetC_of {l : Launch} {G G' : zG} {y : MethodName} {cc : ByteArray} {nL fr mc ms lo sz : Nat} {as : List zV} {M M' : zM} {own : String} {tb : zT} (hG : zGok G) (hGA : zgA G' = zgA G) (htb : zTok own tb) (how : y.cls = own) (hin : y.name = "<init>") (hy : plainName y.cls = true) (hw : zwid as ≤ nL)
    (body : ∀ X : zX, zXl X = l → zOK (X, (cc, nL, own, tb), G) → zAtC X fr mc ms lo sz → zEndC X mc ms G' M' → zGo (X, (cc, nL, own, tb), G) 0 0 (0, zargs 0 as, [], M)) : zMetC l y cc nL fr mc ms lo as sz G M G' M' := by
  refine Met.ofW (cc := cc) (maxL := nL) (ret := none) hy rfl ?_
  intro p e s m args below meth c s₁ B hml hv
  obtain ⟨rfl, ⟨hK, hP, hE⟩, hsz, ho1, ho2⟩ := hv
  have hts0 := atoms_spec (ws := .code y cc nL none :: zt) B.pre
  have hts : ∀ w ∈ zt, w.before ((as.map (zval (zgad G))).toArray) s = true := fun w hw => hts0 w (List.mem_cons_of_mem _ hw)
  have hown : s.vm.findClass own = some m.cls := how ▸ findClass_of_methodNamed B.named
  have hnm : meth.name = "<init>" := (name_of_methodNamed B.named B.method).1.trans hin
  rw [lg_entry_eq]
  refine body (p, l, e, _, s, m, _, below, meth, c, _) rfl ⟨B.exec, B.bytes, hml, hown, hts, hK, hG, htb, hE, B.notSynchronized⟩ ⟨rfl, B.returns, hnm, hsz, ho1, ho2⟩ (by show _ = _; rw [hGA]) s.heap [] _ hP va_S.rf ?_
  have hl := lv_entry (as.map (zval (zgad G))) (n := nL) (by rw [zwid_lg]; exact hw)
  rw [zargs_lv] at hl
  exact hl
section ZCC
variable {p : Program} {l : Launch} {e : Env} {R : Room} {s : State} {m : MethodId} {args : Array Value} {below : List Frame} {meth : Method} {c : Code} {Q : State → Prop} {cc : ByteArray} {nL : Nat} {own : String} {tb : zT} {G G' : zG} {n k pc idx : Nat} {lv : zLv} {st : List zV} {M M' : zM}
theorem zret_c (Z : zOK (zCm p l e R s m args below meth c Q cc nL own tb G)) {fr lo sz mc ms : Nat} (hA : zAtC (p, l, e, R, s, m, args, below, meth, c, Q) fr mc ms lo sz) (hE : zEndC (p, l, e, R, s, m, args, below, meth, c, Q) n k G M) (hd : decode cc pc = .ok (.return_, 1)) : zGo (zCm p l e R s m args below meth c Q cc nL own tb G) n k (pc, lv, [], M) := by
  obtain ⟨hx, hc, -, -, -, -, -, -, -, hlocks⟩ := Z
  obtain ⟨-, hr, -⟩ := hA
  cases hE
  exact fun H locs ls hP hS hl => W.vret hx hc hr (fun t ht _ => ⟨rfl, ht ▸ hP, hS.F ht⟩) hS.2.2 hd hlocks
/-- a constructor is called -/
theorem zcallI (Z : zOK (zCm p l e R s m args below meth c Q cc nL own tb G)) {y : MethodName} {bytes : ByteArray} {maxL fr lo na mc ms sz : Nat} {as : List zV} {r : zR} (hM : zMetC l y bytes maxL fr mc ms lo (.inr (.inr (some r)) :: as) sz G M G' M') (hGG : zgD G' = zgD G ∧ zgad G' = zgad G ∧ zgca G' = zgca G ∧ zgA G' = zgA G) (hsz : sz = s.heap.size + n) (hlast : n = 0 ∨ ∃ q ∈ zgU G, zgad G q + 1 = s.heap.size + n) (ho1 : va_AO "EarField$Box" s) (ho2 : va_AO "EarField$Sum" s) (hw : zcw own idx y bytes maxL none na) (hin : Cond.instanceMethod y ∈ zt) (hy1 : y.name = "<init>") (hn : as.length = na) (hR : fr + 1 ≤ R.frames ∧ 8 + (maxL + 11) + lo ≤ R.locals) (hroom : Nat.ble (zwid st) 8 = true) (hd : decode cc pc = .ok (.invokespecial idx, 3)) (hnk : n + mc ≤ R.cells ∧ k + ms ≤ R.slots)
    (K : zGo (zCm p l e R s m args below meth c Q cc nL own tb G') (n + mc) (k + ms) (pc + 3, lv, st, M')) : zGo (zCm p l e R s m args below meth c Q cc nL own tb G) n k (pc, lv, as.reverse ++ .inr (.inr (some r)) :: st, M) := by
  obtain ⟨hx, hc, hml, hown, hts, hK, hG, htb, hE, hlocks⟩ := Z
  obtain ⟨g1, g2, g3, g4⟩ := hGG
  intro H locs ls hP hS hl T hT Xs
  have hHs := zsize hT Xs hP hS hlast
  obtain ⟨h1, h2, h3, h4, h5⟩ := hw
  have cb : CallB R s args own idx y bytes maxL none (.code y bytes maxL none :: zt) { frames := fr, cells := mc, slots := ms, locals := lo } mc ms na := by
    refine ⟨rfl, rfl, hR.1, hR.2, pay_in hts (fun w hw => ?_), List.mem_cons_self, hts _ h2, hts _ h3, h4, fun sig hs => ?_, hts _ h1⟩
    · rcases List.mem_cons.mp hw with rfl | hw
      · exact ⟨h2, good_of_word (zt_in h2).2⟩
      · exact ⟨hw, good_of_word (zt_in hw).2⟩
    · rw [hs] at h5
      exact (Option.some.inj h5).symm
  have hr := va_runI (b := zgad G r) (As := as.map (zval (zgad G))) (rest := st.map (zval (zgad G))) (g := F0 m pc ls ((as.reverse ++ .inr (.inr (some r)) :: st).map (zval (zgad G)))) (locs := locs) (cells := n) (slots := k) (below := below) (e := e) (meth := meth) (H := H) ⟨hx, hc, hml, hown, hts⟩ hM ⟨cb, hy1, hts _ hin⟩ ⟨zPreC_blind G M sz _, fun U hU hW => ⟨rfl, ⟨va_K.moved hW.alike hK, by rw [hU]; exact hP, zE_moved hE hW hU hS⟩, by rw [hU, hHs, hsz], va_AO.moved hW.alike ho1, va_AO.moved hW.alike ho2⟩⟩ rfl (by rw [List.length_map]; exact hn) hl.1 (by simp; rfl) (lv_room (by rw [zcat_sum]; exact Nat.le_of_ble_eq_true hroom)) hd hnk
  obtain ⟨v, st₀, t, T', L, h0, X', hL, e1, e2, ⟨hv, hP', hF⟩, stp⟩ := hr T hT Xs
  have hv : v = none := by injection hv
  subst hv
  obtain ⟨hz, hk⟩ := hF
  rw [h0] at hz hk
  rw [g4] at hk
  obtain ⟨t2, a1, b1⟩ := K T'.heap (locs ++ L) ls (by rw [e1]; exact hP') (by
    refine ⟨Nat.le_trans hS.1 (by rw [e1]; exact hz), fun q h1 h2 => ?_, fun q hq => ?_⟩
    · have h2 : ¬ zgA G q := by rw [← g4]; exact h2
      rw [e1, hk q (Nat.lt_of_lt_of_le h1 hS.1) h2]; exact hS.2.1 q h1 h2
    · show zgA G' q.base
      rw [g4]
      rcases List.mem_append.mp hq with h | h
      · exact hS.2.2 q h
      · exact hL q h) (by rw [g2]; exact hl) T' rfl X'
  refine ⟨t2, stp t2 ?_, b1⟩
  have e3 : (st.map (zval (zgad G'))) = st.map (zval (zgad G)) := by rw [g2]
  exact e3 ▸ a1
end ZCC
