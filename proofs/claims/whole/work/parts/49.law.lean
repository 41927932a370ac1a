/-! the law: two worlds side by side -/
theorem zP_at {G : zG} {M : zM} {H : Heap} (h : va_P (zgD G) vwCl (zws G M) H) {q : zR} (hq : q ∈ zgU G) : va_at (zgD G) vwCl (zgad G q, zcell (zgad G) (zgca G) M q) H := by
  obtain ⟨j, hj⟩ := List.getElem?_of_mem hq
  exact h j _ (zws_at hj)
theorem zP_of {G : zG} {M : zM} {H : Heap} (h : ∀ q ∈ zgU G, va_at (zgD G) vwCl (zgad G q, zcell (zgad G) (zgca G) M q) H) : va_P (zgD G) vwCl (zws G M) H := by
  intro k p hk
  unfold zws at hk
  rw [List.getElem?_map] at hk
  cases hu : (zgU G)[k]? with
  | none => rw [hu] at hk; cases hk
  | some q => rw [hu] at hk; cases hk; exact h q (List.mem_of_getElem? hu)
theorem zE_narrow {G Gc : zG} {u : State} (h : zE G u) (had : zgad Gc = zgad G) (hA : ∀ x, zgA Gc x → zgA G x) : zE Gc u := by
  obtain ⟨hE, h1, h2, h3, h4⟩ := h
  refine ⟨fun n hn => ?_, ?_, fun n hn => ?_, h3.narrow hA, ?_⟩
  · obtain ⟨a1, a2⟩ := hE n hn
    rw [had]
    exact ⟨a1.narrow hA, a2.narrow hA⟩
  · rw [had]; exact h1.narrow hA
  · rw [had]; exact h2 n hn
  · rw [had]
    rcases h4 with h4 | h4
    · exact Or.inl (h4.narrow hA)
    · exact Or.inr (h4.narrow hA)
section ZLW
variable {p : Program} {l : Launch} {e : Env} {R : Room} {s : State} {m : MethodId} {args : Array Value} {below : List Frame} {meth : Method} {c : Code} {Q : State → Prop} {cc : ByteArray} {nL : Nat} {own : String} {tb : zT} {G G' Gc Gc' : zG} {n k pc idx : Nat} {lv : zLv} {st : List zV} {M M' Mc Mc' : zM}
/-- what a call with a world of its own asks -/
def zFr (G G' Gc Gc' : zG) (M M' Mc Mc' : zM) : Prop := (zgD Gc = zgD G ∧ zgad Gc = zgad G ∧ zgca Gc = zgca G) ∧ (zgD Gc' = zgD G ∧ zgad Gc' = zgad G ∧ zgca Gc' = zgca G ∧ zgA Gc' = zgA Gc) ∧ (zgD G' = zgD G ∧ zgad G' = zgad G ∧ zgca G' = zgca G ∧ zgA G' = zgA G) ∧ (∀ x, zgA Gc x → zgA G x) ∧ (∀ q ∈ zgU Gc, q ∈ zgU G ∧ zcell (zgad G) (zgca G) Mc q = zcell (zgad G) (zgca G) M q) ∧ (∀ q ∈ zgU G', (q ∈ zgU Gc' ∧ zcell (zgad G) (zgca G) M' q = zcell (zgad G) (zgca G) Mc' q) ∨ (q ∈ zgU G ∧ ¬ zgA Gc (zgad G q) ∧ zcell (zgad G) (zgca G) M' q = zcell (zgad G) (zgca G) M q))
theorem zFr_in {H : Heap} (h : zFr G G' Gc Gc' M M' Mc Mc') (hP : va_P (zgD G) vwCl (zws G M) H) : va_P (zgD Gc) vwCl (zws Gc Mc) H := by
  obtain ⟨⟨a1, a2, a3⟩, -, -, -, h1, -⟩ := h
  refine zP_of fun q hq => ?_
  obtain ⟨b1, b2⟩ := h1 q hq
  rw [a1, a2, a3, b2]
  exact zP_at hP b1
theorem zFr_out {H H1 : Heap} (h : zFr G G' Gc Gc' M M' Mc Mc') (hP : va_P (zgD G) vwCl (zws G M) H) (hP1 : va_P (zgD Gc') vwCl (zws Gc' Mc') H1) (hk : ∀ q : Nat, q < H.size → ¬ zgA Gc q → H1[q]? = H[q]?) : va_P (zgD G') vwCl (zws G' M') H1 := by
  obtain ⟨-, ⟨b1, b2, b3, -⟩, ⟨c1, c2, c3, -⟩, -, -, h2⟩ := h
  refine zP_of fun q hq => ?_
  rw [c1, c2, c3]
  rcases h2 q hq with ⟨d1, d2⟩ | ⟨d1, d2, d3⟩
  · rw [d2]
    have := zP_at hP1 d1
    rw [b1, b2, b3] at this
    exact this
  · rw [d3]
    have h0 := zP_at hP d1
    exact h0.kept (hk _ h0.lt d2)
/-- a method of an object with a world of its own -/
theorem zcallW (Z : zOK (zCm p l e R s m args below meth c Q cc nL own tb G)) {y : MethodName} {bytes : ByteArray} {maxL : Nat} {ret : Option FieldType} {fr lo na kk i0 : Nat} {as : List zV} {r : Option zV} (hM : zMet l Gc y bytes maxL ret fr lo (.inr (.inr (some (kk, i0))) :: as) Mc r Mc') (hF : zFr G G Gc Gc M M' Mc Mc') (hw : zcw own idx y bytes maxL ret na) (hin : Cond.instanceMethod y ∈ zt) (hse : Cond.selects (zRt kk) y y ∈ zt) (hk : kk < 13) (hU : (kk, i0) ∈ zgU G) (hn : as.length = na) (hR : fr + 1 ≤ R.frames ∧ 8 + (maxL + 11) + lo ≤ R.locals) (hroom : Nat.ble (zwid st) 8 = true) (hd : decode cc pc = .ok (.invokevirtual idx, 3)) (hnk : n ≤ R.cells ∧ k ≤ R.slots)
    (K : zGo (zCm p l e R s m args below meth c Q cc nL own tb G) n k (pc + 3, lv, zrv r st, M')) : zGo (zCm p l e R s m args below meth c Q cc nL own tb G) n k (pc, lv, as.reverse ++ .inr (.inr (some (kk, i0))) :: st, M) := by
  obtain ⟨hx, hc, hml, hown, hts, hK, hG, htb, hE, hlocks⟩ := Z
  obtain ⟨q0, hq⟩ := List.getElem?_of_mem hU
  have hF0 := hF
  obtain ⟨⟨a1, a2, a3⟩, -, -, hA, -, -⟩ := hF
  intro H locs ls hP hS hl T hT Xs
  have hr := va_runV (C := zRt kk) (b := zgad G (kk, i0)) (As := as.map (zval (zgad G))) (rest := st.map (zval (zgad G))) (g := F0 m pc ls ((as.reverse ++ .inr (.inr (some (kk, i0))) :: st).map (zval (zgad G)))) (locs := locs) (cells := n) (slots := k) (below := below) (e := e) (meth := meth) (H := H) (mc := 0) (ms := 0) ⟨hx, hc, hml, hown, hts⟩ hM ⟨zcallB hts hw hR, hts _ hin, hts _ hse⟩ ⟨zPre_blind Gc Mc _, va_recv hK hP (zcl_at kk hk) ((zws_at hq).trans (by rw [zcell_obj hk])), fun U hU' hW => ⟨by rw [a2]; rfl, by rw [a1, a3]; exact va_K.moved hW.alike hK, by rw [hU']; exact zFr_in hF0 hP, zE_narrow (zE_moved hE hW hU' hS) a2 hA⟩⟩ rfl (by rw [List.length_map]; exact hn) hl.1 (by simp; rfl) (lv_room (by rw [zcat_sum]; exact Nat.le_of_ble_eq_true hroom)) hd hnk
  obtain ⟨v, st₀, t, T', L, h0, X', hL, e1, e2, ⟨hv, hP', hF'⟩, stp⟩ := hr T hT Xs
  have hv : v = r.map (zval (zgad Gc)) := by injection hv
  subst hv
  obtain ⟨hz, hk'⟩ := hF'
  rw [h0] at hz hk'
  obtain ⟨t2, b1, b2⟩ := K T'.heap (locs ++ L) ls (by rw [e1]; exact zFr_out hF0 hP hP' hk') (by
    refine ⟨Nat.le_trans hS.1 (by rw [e1]; exact hz), fun q h1 h2 => ?_, fun q hq => ?_⟩
    · rw [e1, hk' q (Nat.lt_of_lt_of_le h1 hS.1) (fun z => h2 (hA _ z))]; exact hS.2.1 q h1 h2
    · rcases List.mem_append.mp hq with h | h
      · exact hS.2.2 q h
      · exact hA _ (hL q h)) hl T' rfl X'
  refine ⟨t2, stp t2 ?_, b2⟩
  have e3 : (r.map (zval (zgad Gc))).toList ++ st.map (zval (zgad G)) = (zrv r st).map (zval (zgad G)) := by rw [a2, zrv_eq]
  exact e3 ▸ b1
/-- a constructor with a world of its own -/
theorem zcallJ (Z : zOK (zCm p l e R s m args below meth c Q cc nL own tb G)) {y : MethodName} {bytes : ByteArray} {maxL fr lo na mc ms sz : Nat} {as : List zV} {r : zR} (hM : zMetC l y bytes maxL fr mc ms lo (.inr (.inr (some r)) :: as) sz Gc Mc Gc' Mc') (hF : zFr G G' Gc Gc' M M' Mc Mc') (hsz : sz = s.heap.size + n) (hlast : n = 0 ∨ ∃ q ∈ zgU G, zgad G q + 1 = s.heap.size + n) (ho1 : va_AO "EarField$Box" s) (ho2 : va_AO "EarField$Sum" s) (hw : zcw own idx y bytes maxL none na) (hin : Cond.instanceMethod y ∈ zt) (hy1 : y.name = "<init>") (hn : as.length = na) (hR : fr + 1 ≤ R.frames ∧ 8 + (maxL + 11) + lo ≤ R.locals) (hroom : Nat.ble (zwid st) 8 = true) (hd : decode cc pc = .ok (.invokespecial idx, 3)) (hnk : n + mc ≤ R.cells ∧ k + ms ≤ R.slots)
    (K : zGo (zCm p l e R s m args below meth c Q cc nL own tb G') (n + mc) (k + ms) (pc + 3, lv, st, M')) : zGo (zCm p l e R s m args below meth c Q cc nL own tb G) n k (pc, lv, as.reverse ++ .inr (.inr (some r)) :: st, M) := by
  obtain ⟨hx, hc, hml, hown, hts, hK, hG, htb, hE, hlocks⟩ := Z
  have hF0 := hF
  obtain ⟨⟨a1, a2, a3⟩, ⟨b1, b2, b3, b4⟩, ⟨c1, c2, c3, c4⟩, hA, -, -⟩ := hF
  intro H locs ls hP hS hl T hT Xs
  have hHs := zsize hT Xs hP hS hlast
  obtain ⟨h1, h2, h3, h4, h5⟩ := hw
  have cb : CallB R s args own idx y bytes maxL none (.code y bytes maxL none :: zt) { frames := fr, cells := mc, slots := ms, locals := lo } mc ms na := by
    refine ⟨rfl, rfl, hR.1, hR.2, pay_in hts (fun w hw => ?_), List.mem_cons_self, hts _ h2, hts _ h3, h4, fun sig hs => ?_, hts _ h1⟩
    · rcases List.mem_cons.mp hw with rfl | hw
      · exact ⟨h2, good_of_word (zt_in h2).2⟩
      · exact ⟨hw, good_of_word (zt_in hw).2⟩
    · rw [hs] at h5
      exact (Option.some.inj h5).symm
  have hr := va_runI (b := zgad G r) (As := as.map (zval (zgad G))) (rest := st.map (zval (zgad G))) (g := F0 m pc ls ((as.reverse ++ .inr (.inr (some r)) :: st).map (zval (zgad G)))) (locs := locs) (cells := n) (slots := k) (below := below) (e := e) (meth := meth) (H := H) ⟨hx, hc, hml, hown, hts⟩ hM ⟨cb, hy1, hts _ hin⟩ ⟨zPreC_blind Gc Mc sz _, fun U hU hW => ⟨by rw [a2]; rfl, ⟨by rw [a1, a3]; exact va_K.moved hW.alike hK, by rw [hU]; exact zFr_in hF0 hP, zE_narrow (zE_moved hE hW hU hS) a2 hA⟩, by rw [hU, hHs, hsz], va_AO.moved hW.alike ho1, va_AO.moved hW.alike ho2⟩⟩ rfl (by rw [List.length_map]; exact hn) hl.1 (by simp; rfl) (lv_room (by rw [zcat_sum]; exact Nat.le_of_ble_eq_true hroom)) hd hnk
  obtain ⟨v, st₀, t, T', L, h0, X', hL, e1, e2, ⟨hv, hP', hF'⟩, stp⟩ := hr T hT Xs
  have hv : v = none := by injection hv
  subst hv
  obtain ⟨hz, hk'⟩ := hF'
  rw [h0] at hz hk'
  rw [b4] at hk'
  obtain ⟨t2, d1, d2⟩ := K T'.heap (locs ++ L) ls (by rw [e1]; exact zFr_out hF0 hP hP' hk') (by
    refine ⟨Nat.le_trans hS.1 (by rw [e1]; exact hz), fun q h1 h2 => ?_, fun q hq => ?_⟩
    · have h2 : ¬ zgA G q := by rw [← c4]; exact h2
      rw [e1, hk' q (Nat.lt_of_lt_of_le h1 hS.1) (fun z => h2 (hA _ z))]; exact hS.2.1 q h1 h2
    · show zgA G' q.base
      rw [c4]
      rcases List.mem_append.mp hq with h | h
      · exact hS.2.2 q h
      · exact hA _ (hL q h)) (by rw [c2]; exact hl) T' rfl X'
  refine ⟨t2, stp t2 ?_, d2⟩
  have e3 : (st.map (zval (zgad G'))) = st.map (zval (zgad G)) := by rw [c2]
  exact e3 ▸ d1
/-- the script -/
theorem c_sld (Z : zOK (zCm p l e R s m args below meth c Q cc nL own tb G)) {L : Nat} {xs : Nat → Int32} (hX : va_X (zgad G (2200, 0)) L xs s s.heap ∧ zgad G (2200, 0) < s.heap.size ∧ ¬ zgA G (zgad G (2200, 0))) {i : Int32} (hi : zin i L = true) (hd : decode cc pc = .ok (.iaload, 1)) (K : zGo (zCm p l e R s m args below meth c Q cc nL own tb G) n k (pc + 1, lv, .inl (xs (nx i)) :: st, M)) : zGo (zCm p l e R s m args below meth c Q cc nL own tb G) n k (pc, lv, .inl i :: .inr (.inr (some (2200, 0))) :: st, M) := by
  obtain ⟨hx, hc, hml, hown, hts, hK, hG, htb, hE, hlocks⟩ := Z
  exact fun H locs ls hP hS hl => va_sld hx hc hX.1 hX.2.1 hX.2.2 hS (zin_in hi) hd (K H locs ls hP hS hl)
theorem c_slen (Z : zOK (zCm p l e R s m args below meth c Q cc nL own tb G)) {L : Nat} {xs : Nat → Int32} (hX : va_X (zgad G (2200, 0)) L xs s s.heap ∧ zgad G (2200, 0) < s.heap.size ∧ ¬ zgA G (zgad G (2200, 0))) (hd : decode cc pc = .ok (.arraylength, 1)) (K : zGo (zCm p l e R s m args below meth c Q cc nL own tb G) n k (pc + 1, lv, .inl (Int32.ofNat L) :: st, M)) : zGo (zCm p l e R s m args below meth c Q cc nL own tb G) n k (pc, lv, .inr (.inr (some (2200, 0))) :: st, M) := by
  obtain ⟨hx, hc, hml, hown, hts, hK, hG, htb, hE, hlocks⟩ := Z
  exact fun H locs ls hP hS hl => va_slen hx hc hX.1 hX.2.1 hX.2.2 hS hd (K H locs ls hP hS hl)
end ZLW
/-! the mixed memory -/
def zisR (k : Nat) : Bool := Nat.beq k 12 || Nat.ble 1300 k
def zmix (MC : cM) (MR : rM) : zM := (fun k i s => match zisR k with
  | true => MR.1 k i s
  | false => MC.1 k i s, fun k i s => match zisR k with
  | true => MR.2 k i s
  | false => 0, fun k i s => match zisR k with
  | true => zlR k i s
  | false => zlC MC.2 k i s)
theorem zmix_C {MC : cM} {MR : rM} {ad : zR → Nat} {ca : Nat → ClassId} {q : zR} (h : zisR q.1 = false) : zcell ad ca (zmix MC MR) q = zcell ad ca (zfC MC) q := by
  obtain ⟨k, i⟩ := q
  have h : zisR k = false := h
  unfold zcell zac zfv zmix zfC
  simp only [h]
theorem zmix_R {MC : cM} {MR : rM} {ad : zR → Nat} {ca : Nat → ClassId} {q : zR} (h : zisR q.1 = true) : zcell ad ca (zmix MC MR) q = zcell ad ca (zfR MR) q := by
  obtain ⟨k, i⟩ := q
  have h : zisR k = true := h
  unfold zcell zac zfv zmix zfR
  simp only [h]
