-- ===== end of PART A; then your names; then what follows =====
/-! THE CLAIM OUT OF ONE WALK OF THE LAW'S BODY. Your part is whole_start (and what it stands on); all else here is the same for every law, but numbers. -/
def R_law : String := "EarFieldLaw"
def lw_P (b : Addr) (xs : List Int32) (args : Array Value) (s : State) : Prop := args = #[.ref b] ∧ s.IntsAt b xs ∧ xs.length ≤ 3072 ∧ (Jvm.Cond.and given_1 narrow_1).before args s = true
def lw_Q (_ : Array Value) (s : State) (o : Outcome) (t : State) : Prop := o = .returned (some (.int 1)) ∧ Framed s o t [] 600000 7302250
def lw_Z (below : List Frame) (a : Array Value) (s : State) : State → Prop := fun t => ∃ o, t.status = .running ∧ Ended t below o ∧ lw_Q a s o t
/-- the law's own end, with 1 on the stack, nothing written that was there before, its room as the claim has it -/
theorem lw_ret {p : Program} {l : Launch} {e : Env} {s : State} {m : MethodId} {below : List Frame} {meth : Method} {c : Code} {b : Nat} (hx : p.tables.exec = Jvm.exec) (hb : c.code = code) (hr : meth.sig.returnType = ret) (hlocks : meth.locks = false) {pc : Nat} {H : Heap} {ls : Array Slot} (hdg : decode code pc = .ok (.ireturn, 1)) : W p l e room_1 s m #[Value.ref b] below meth c H [] 600000 7302250 (lw_Z below #[Value.ref b] s) (F0 m pc ls [.int 1]) := by
  intro T hT X
  obtain ⟨fs, hret, hrun, hended, hW, hframe⟩ := X.leave (v := some (.int 1)) (hlocks := hlocks) (fun h => by rw [hr] at h; cases h)
  have hmeth' : T.vm.method? m = some meth := X.method'
  refine ⟨T.setFrames fs, ?_, .returned (some (.int 1)), hrun, hended, rfl, ⟨_, rfl⟩, hW, hframe⟩
  jvm_step X.here [X.here.top, hx, hb, hdg, hmeth', hr, ret, narrow_b1]
  (try refine ⟨rfl, ?_⟩); (try refine ⟨rfl, ?_⟩)
  first | (intro acts; rw [hret _ acts rfl rfl rfl]) | rw [hret _ _ rfl rfl rfl]
  exact Steps.refl _
/-- what holds at the law's entry: the machine, the code, the tables' words (any of lw_tbl by 'hts w (by decide +kernel)'), the script of L ints xs at the cell b, what the Statement gives of the start (any of its parts by flat_of_before) -/
def lw_At (p : Program) (s : State) (m : MethodId) (meth : Method) (c : Code) (b L : Nat) (xs : Nat → Int32) : Prop :=
  p.tables.exec = Jvm.exec ∧ c.code = code ∧ meth.sig.returnType = ret ∧ c.maxLocals = 4 ∧ s.vm.findClass R_law = some m.cls ∧ (∀ w ∈ lw_tbl, w.before #[Value.ref b] s = true) ∧ va_X b L xs s s.heap ∧ b < s.heap.size ∧ meth.locks = false ∧ (Jvm.Cond.and given_1 narrow_1).before #[Value.ref b] s = true
/-! the class's world and the reference's -/
def zUA : List zR := zUC ++ zUR
def zGL (D : va_G) (ad : zR → Nat) (ca : Nat → ClassId) (A : Nat → Prop) : zG := (D, ad, ca, A, zUA, zc0)
def zGC (D : va_G) (ad : zR → Nat) (ca : Nat → ClassId) (base : Nat) : zG := (D, ad, ca, fun x => base ≤ x ∧ x < base + 157, zUC, zcC)
def zGR (D : va_G) (ad : zR → Nat) (ca : Nat → ClassId) (base : Nat) : zG := (D, ad, ca, fun x => base + 157 ≤ x, zUR, zcR)
theorem zUC_len : zUC.length = 157 := by decide +kernel
theorem zUR_len : zUR.length = 52 := by decide +kernel
theorem zUC_k : ∀ q ∈ zUC, zisR q.1 = false := by decide +kernel
theorem zUR_k : ∀ q ∈ zUR, zisR q.1 = true := by decide +kernel
theorem zcC_all : ∀ k, k < 1400 → ∀ i, i < zcC k → (k, i) ∈ zUC := by decide +kernel
theorem zcR_all : ∀ k, k < 1400 → ∀ i, i < zcR k → (k, i) ∈ zUR := by decide +kernel
theorem zcC_far {k : Nat} (h : ¬ k < 1400) : zcC k = 0 := by
  unfold zcC
  have h1 : 14 ≤ k / 100 := by omega
  have h2 : zcCT.length = 14 := by decide +kernel
  have e : zcCT.getD (k / 100) [] = [] := by
    rw [List.getD_eq_getElem?_getD, List.getElem?_eq_none (by rw [h2]; exact h1)]
    rfl
  rw [e]
  rfl
theorem zcR_far {k : Nat} (h : ¬ k < 1400) : zcR k = 0 := by
  have h1 : Nat.beq k 12 = false := by
    cases hb : Nat.beq k 12
    · rfl
    · have := Nat.eq_of_beq_eq_true hb
      omega
  have h2 : Nat.beq (k / 100) 13 = false := by
    cases hb : Nat.beq (k / 100) 13
    · rfl
    · have := Nat.eq_of_beq_eq_true hb
      omega
  unfold zcR
  rw [h1, h2]
theorem zUA_11 : (11, 0) ∈ zUA := by decide +kernel
theorem zUA_12 : (12, 0) ∈ zUA := by decide +kernel
section ZWD
variable {D : va_G} {ad : zR → Nat} {ca : Nat → ClassId} {A : Nat → Prop} {base : Nat}
theorem zW_C (hW : zWh zUA base ad A) {j : Nat} {r : zR} (h : zUC[j]? = some r) : ad r = base + j ∧ j < 157 := by
  have hl := (List.getElem?_eq_some_iff.mp h).1
  refine ⟨hW.1 j r ?_, by rw [← zUC_len]; exact hl⟩
  unfold zUA
  rw [List.getElem?_append_left hl]; exact h
theorem zW_R (hW : zWh zUA base ad A) {j : Nat} {r : zR} (h : zUR[j]? = some r) : ad r = base + (157 + j) := by
  refine hW.1 (157 + j) r ?_
  unfold zUA
  rw [List.getElem?_append_right (by rw [zUC_len]; omega), zUC_len]
  rw [show 157 + j - 157 = j by omega]; exact h
theorem zGC_ok (hW : zWh zUA base ad A) : zGok (zGC D ad ca base) := by
  refine ⟨fun i j q q' hi hj he => ?_, fun q hq => ?_, fun k i h => ?_⟩
  · have h1 := (zW_C hW hi).1
    have h2 := (zW_C hW hj).1
    have he : ad q = ad q' := he
    omega
  · obtain ⟨j, hj⟩ := List.getElem?_of_mem hq
    obtain ⟨h1, h2⟩ := zW_C hW hj
    show base ≤ ad q ∧ ad q < base + 157
    omega
  · have h : i < zcC k := zblt_t.mp h
    by_cases hk : k < 1400
    · exact zcC_all k hk i h
    · rw [zcC_far hk] at h; omega
theorem zGR_ok (hW : zWh zUA base ad A) : zGok (zGR D ad ca base) := by
  refine ⟨fun i j q q' hi hj he => ?_, fun q hq => ?_, fun k i h => ?_⟩
  · have h1 := zW_R hW hi
    have h2 := zW_R hW hj
    have he : ad q = ad q' := he
    omega
  · obtain ⟨j, hj⟩ := List.getElem?_of_mem hq
    have h1 := zW_R hW hj
    show base + 157 ≤ ad q
    omega
  · have h : i < zcR k := zblt_t.mp h
    by_cases hk : k < 1400
    · exact zcR_all k hk i h
    · rw [zcR_far hk] at h; omega
theorem zGL_ok (hW : zWh zUA base ad A) : zGok (zGL D ad ca A) := by
  have e : zGL D ad ca A = zGt zUA D ad ca A 209 := by
    unfold zGL zGt
    rw [List.take_of_length_le (by unfold zUA; rw [List.length_append, zUC_len, zUR_len]; omega)]
  rw [e]; exact zGt_ok hW _
theorem zFr_C (hW : zWh zUA base ad A) (MC MC' : cM) (MR : rM) : zFr (zGL D ad ca A) (zGL D ad ca A) (zGC D ad ca base) (zGC D ad ca base) (zmix MC MR) (zmix MC' MR) (zfC MC) (zfC MC') := by
  refine ⟨⟨rfl, rfl, rfl⟩, ⟨rfl, rfl, rfl, rfl⟩, ⟨rfl, rfl, rfl, rfl⟩, fun x hx => hW.2 x hx.1, fun q hq => ⟨List.mem_append.mpr (Or.inl hq), (zmix_C (zUC_k q hq)).symm⟩, fun q hq => ?_⟩
  rcases List.mem_append.mp (show q ∈ zUC ++ zUR from hq) with h | h
  · exact Or.inl ⟨h, zmix_C (zUC_k q h)⟩
  · obtain ⟨j, hj⟩ := List.getElem?_of_mem h
    have h1 := zW_R hW hj
    refine Or.inr ⟨hq, fun hA => ?_, ?_⟩
    · have hA : base ≤ ad q ∧ ad q < base + 157 := hA
      omega
    · rw [zmix_R (zUR_k q h), zmix_R (zUR_k q h)]
theorem zFr_R (hW : zWh zUA base ad A) (MC : cM) (MR MR' : rM) : zFr (zGL D ad ca A) (zGL D ad ca A) (zGR D ad ca base) (zGR D ad ca base) (zmix MC MR) (zmix MC MR') (zfR MR) (zfR MR') := by
  refine ⟨⟨rfl, rfl, rfl⟩, ⟨rfl, rfl, rfl, rfl⟩, ⟨rfl, rfl, rfl, rfl⟩, fun x hx => hW.2 x (by have hx : base + 157 ≤ x := hx; omega), fun q hq => ⟨List.mem_append.mpr (Or.inr hq), (zmix_R (zUR_k q hq)).symm⟩, fun q hq => ?_⟩
  rcases List.mem_append.mp (show q ∈ zUC ++ zUR from hq) with h | h
  · obtain ⟨j, hj⟩ := List.getElem?_of_mem h
    obtain ⟨h1, h2⟩ := zW_C hW hj
    refine Or.inr ⟨hq, fun hA => ?_, ?_⟩
    · have hA : base + 157 ≤ ad q := hA
      omega
    · rw [zmix_C (zUC_k q h), zmix_C (zUC_k q h)]
  · exact Or.inl ⟨h, zmix_R (zUR_k q h)⟩
variable {p : Program} {l : Launch} {e : Env} {R : Room} {s : State} {m : MethodId} {args : Array Value} {below : List Frame} {meth : Method} {c : Code} {Q : State → Prop} {cc : ByteArray} {nL : Nat} {own : String} {tb : zT} {n k pc idx : Nat} {lv : zLv} {st : List zV} {MC MC' : cM} {MR MR' : rM}
theorem lw_callC (hW : zWh zUA base ad A) (Z : zOK (zCm p l e R s m args below meth c Q cc nL own tb (zGL D ad ca A))) {y : MethodName} {bytes : ByteArray} {maxL : Nat} {ret : Option FieldType} {fr lo na : Nat} {as : List zV} {r : Option zV} (hM : zMet l (zGC D ad ca base) y bytes maxL ret fr lo (.inr (.inr (some (11, 0))) :: as) (zfC MC) r (zfC MC')) (hw : zcw own idx y bytes maxL ret na) (hin : Cond.instanceMethod y ∈ zt) (hse : Cond.selects (zRt 11) y y ∈ zt) (hn : as.length = na) (hR : fr + 1 ≤ R.frames ∧ 8 + (maxL + 11) + lo ≤ R.locals) (hroom : Nat.ble (zwid st) 8 = true) (hd : decode cc pc = .ok (.invokevirtual idx, 3)) (hnk : n ≤ R.cells ∧ k ≤ R.slots)
    (K : zGo (zCm p l e R s m args below meth c Q cc nL own tb (zGL D ad ca A)) n k (pc + 3, lv, zrv r st, zmix MC' MR)) : zGo (zCm p l e R s m args below meth c Q cc nL own tb (zGL D ad ca A)) n k (pc, lv, as.reverse ++ .inr (.inr (some (11, 0))) :: st, zmix MC MR) :=
  zcallW Z hM (zFr_C hW MC MC' MR) hw hin hse (by decide) zUA_11 hn hR hroom hd hnk K
theorem lw_callR (hW : zWh zUA base ad A) (Z : zOK (zCm p l e R s m args below meth c Q cc nL own tb (zGL D ad ca A))) {y : MethodName} {bytes : ByteArray} {maxL : Nat} {ret : Option FieldType} {fr lo na : Nat} {as : List zV} {r : Option zV} (hM : zMet l (zGR D ad ca base) y bytes maxL ret fr lo (.inr (.inr (some (12, 0))) :: as) (zfR MR) r (zfR MR')) (hw : zcw own idx y bytes maxL ret na) (hin : Cond.instanceMethod y ∈ zt) (hse : Cond.selects (zRt 12) y y ∈ zt) (hn : as.length = na) (hR : fr + 1 ≤ R.frames ∧ 8 + (maxL + 11) + lo ≤ R.locals) (hroom : Nat.ble (zwid st) 8 = true) (hd : decode cc pc = .ok (.invokevirtual idx, 3)) (hnk : n ≤ R.cells ∧ k ≤ R.slots)
    (K : zGo (zCm p l e R s m args below meth c Q cc nL own tb (zGL D ad ca A)) n k (pc + 3, lv, zrv r st, zmix MC MR')) : zGo (zCm p l e R s m args below meth c Q cc nL own tb (zGL D ad ca A)) n k (pc, lv, as.reverse ++ .inr (.inr (some (12, 0))) :: st, zmix MC MR) :=
  zcallW Z hM (zFr_R hW MC MR MR') hw hin hse (by decide) zUA_12 hn hR hroom hd hnk K
end ZWD
