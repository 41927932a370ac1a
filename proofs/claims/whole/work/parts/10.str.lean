/-! texts: String.length and charAt of the eleven String constants -/
def zstlen (w : Nat) : Int32 := zshr (Int32.ofNat (zstL.getD w 0)) 0
def zstch (w : Nat) (i : Int32) : Int32 := (((zstB.getD w []).getD i.toNatClampNeg 0 &&& 255).toUInt32 % 65536).toInt32
theorem zMet_ofF {l : Launch} {G : zG} {y : MethodName} {cc : ByteArray} {nL : Nat} {ret : Option FieldType} {fr lo : Nat} {as : List zV} {M M' : zM} {r : Option zV} {own : String} {tb : zT} (hG : zGok G) (htb : zTok own tb) (how : y.cls = own) (hy : plainFor y = true) (hw : zwid as ≤ nL)
    (body : ∀ X : zX, zXl X = l → zOK (X, (cc, nL, own, tb), G) → zAt X G fr lo ret → zEnd X G r M' → zGo (X, (cc, nL, own, tb), G) 0 0 (0, zargs 0 as, [], M)) : zMet l G y cc nL ret fr lo as M r M' := by
  refine va_MetF (cc := cc) (maxL := nL) (ret := ret) hy rfl ?_
  intro p e s m args below meth c s₁ B hml hv
  obtain ⟨rfl, hK, hP, hE⟩ := hv
  have hts0 := atoms_spec (ws := .code y cc nL ret :: zt) B.pre
  have hts : ∀ w ∈ zt, w.before ((as.map (zval (zgad G))).toArray) s = true := fun w hw => hts0 w (List.mem_cons_of_mem _ hw)
  have hown : s.vm.findClass own = some m.cls := how ▸ findClass_of_methodNamed B.named
  rw [lg_entry_eq]
  refine body (p, l, e, _, s, m, _, below, meth, c, _) rfl ⟨B.exec, B.bytes, hml, hown, hts, hK, hG, htb, hE, B.notSynchronized⟩ ⟨rfl, B.returns⟩ rfl s.heap [] _ hP va_S.rf ?_
  have hl := lv_entry (as.map (zval (zgad G))) (n := nL) (by rw [zwid_lg]; exact hw)
  rw [zargs_lv] at hl
  exact hl
section ZSTR
variable {X : zX} {cc : ByteArray} {nL : Nat} {own : String} {tb : zT} {G : zG} {n k pc idx w : Nat} {lv : zLv} {st : List zV} {M : zM}
theorem zr_ldcS (Z : zOK (X, (cc, nL, "EarField$Text", tb), G)) (hw : w < 11) (hi : zstI.getD w 0 = idx) (hd : decode cc pc = .ok (.ldc idx, 2)) (K : zGo (X, (cc, nL, "EarField$Text", tb), G) n k (pc + 2, lv, .inr (.inr (some (2100, w))) :: st, M)) : zGo (X, (cc, nL, "EarField$Text", tb), G) n k (pc, lv, st, M) := by
  obtain ⟨p, l, e, R, s, m, args, below, meth, c, Q⟩ := X
  obtain ⟨hx, hc, hml, hown, hts, hK, hG, htb, hE, hlocks⟩ := Z
  subst hi
  exact fun H locs ls hP hS hl => va_ldcS hx hc hown (hE.2.2.1 w hw) hd (K H locs ls hP hS hl)
theorem zr_sval (Z : zOK (X, (cc, nL, own, tb), G)) (hw : w < 11) (hl : Cond.fieldLink own idx "java/lang/String" "value" "[B" ∈ zt) (hd : decode cc pc = .ok (.getfield idx, 3)) (K : zGo (X, (cc, nL, own, tb), G) n k (pc + 3, lv, .inr (.inr (some (2101, w))) :: st, M)) : zGo (X, (cc, nL, own, tb), G) n k (pc, lv, .inr (.inr (some (2100, w))) :: st, M) := by
  obtain ⟨p, l, e, R, s, m, args, below, meth, c, Q⟩ := X
  obtain ⟨hx, hc, hml, hown, hts, hK, hG, htb, hE, hlocks⟩ := Z
  exact fun H locs ls hP hS hl' => vk_getf hx hc (hE.2.1.1 w hw).2.2.1 hS hown (hts _ hl) (fun _ h => h) hd (K H locs ls hP hS hl')
theorem zr_scod (Z : zOK (X, (cc, nL, own, tb), G)) (hw : w < 11) (hl : Cond.fieldLink own idx "java/lang/String" "coder" "B" ∈ zt) (hd : decode cc pc = .ok (.getfield idx, 3)) (K : zGo (X, (cc, nL, own, tb), G) n k (pc + 3, lv, .inl 0 :: st, M)) : zGo (X, (cc, nL, own, tb), G) n k (pc, lv, .inr (.inr (some (2100, w))) :: st, M) := by
  obtain ⟨p, l, e, R, s, m, args, below, meth, c, Q⟩ := X
  obtain ⟨hx, hc, hml, hown, hts, hK, hG, htb, hE, hlocks⟩ := Z
  exact fun H locs ls hP hS hl' => vk_getf hx hc (hE.2.1.1 w hw).2.1 hS hown (hts _ hl) (fun _ h => h) hd (K H locs ls hP hS hl')
theorem zr_blen (Z : zOK (X, (cc, nL, own, tb), G)) (hw : w < 11) (hd : decode cc pc = .ok (.arraylength, 1)) (K : zGo (X, (cc, nL, own, tb), G) n k (pc + 1, lv, .inl (Int32.ofNat (zstL.getD w 0)) :: st, M)) : zGo (X, (cc, nL, own, tb), G) n k (pc, lv, .inr (.inr (some (2101, w))) :: st, M) := by
  obtain ⟨p, l, e, R, s, m, args, below, meth, c, Q⟩ := X
  obtain ⟨hx, hc, hml, hown, hts, hK, hG, htb, hE, hlocks⟩ := Z
  exact fun H locs ls hP hS hl' => va_tlen hx hc (hE.2.1.1 w hw).2.2.2 hS rfl hd (K H locs ls hP hS hl')
theorem zr_bald (Z : zOK (X, (cc, nL, own, tb), G)) (hw : w < 11) {i : Int32} (hi : zin i (zstL.getD w 0) = true) (hd : decode cc pc = .ok (.baload, 1)) (K : zGo (X, (cc, nL, own, tb), G) n k (pc + 1, lv, .inl ((zstB.getD w []).getD i.toNatClampNeg 0) :: st, M)) : zGo (X, (cc, nL, own, tb), G) n k (pc, lv, .inl i :: .inr (.inr (some (2101, w))) :: st, M) := by
  obtain ⟨p, l, e, R, s, m, args, below, meth, c, Q⟩ := X
  obtain ⟨hx, hc, hml, hown, hts, hK, hG, htb, hE, hlocks⟩ := Z
  exact fun H locs ls hP hS hl' => va_tb hx hc (hE.2.1.1 w hw).2.2.2 hS (zin_in hi) rfl hd (K H locs ls hP hS hl')
theorem zr_cs (Z : zOK (X, (cc, nL, own, tb), G)) (hl : Cond.fieldLink own idx "java/lang/String" "COMPACT_STRINGS" "Z" ∈ zt) (hd : decode cc pc = .ok (.getstatic idx, 3)) (K : zGo (X, (cc, nL, own, tb), G) n k (pc + 3, lv, .inl 1 :: st, M)) : zGo (X, (cc, nL, own, tb), G) n k (pc, lv, st, M) := by
  obtain ⟨p, l, e, R, s, m, args, below, meth, c, Q⟩ := X
  obtain ⟨hx, hc, hml, hown, hts, hK, hG, htb, hE, hlocks⟩ := Z
  exact fun H locs ls hP hS hl' => va_gets hx hc hE.2.2.2.1 hS hown (hts _ hl) (fun _ h => h) hd (K H locs ls hP hS hl')
theorem zr_fmt (Z : zOK (X, (cc, nL, own, tb), G)) (hl : Cond.fieldLink own idx "jdk/internal/util/Preconditions" "SIOOBE_FORMATTER" "Ljava/util/function/BiFunction;" ∈ zt) (hd : decode cc pc = .ok (.getstatic idx, 3)) (K : ∀ r : Option zR, zGo (X, (cc, nL, own, tb), G) n k (pc + 3, lv, .inr (.inr r) :: st, M)) : zGo (X, (cc, nL, own, tb), G) n k (pc, lv, st, M) := by
  obtain ⟨p, l, e, R, s, m, args, below, meth, c, Q⟩ := X
  obtain ⟨hx, hc, hml, hown, hts, hK, hG, htb, hE, hlocks⟩ := Z
  rcases hE.2.2.2.2 with h | h
  · exact fun H locs ls hP hS hl' => va_gets hx hc h hS hown (hts _ hl) (fun _ h => h) hd (K none H locs ls hP hS hl')
  · exact fun H locs ls hP hS hl' => va_gets hx hc h hS hown (hts _ hl) (fun _ h => h) hd (K (some (2102, 0)) H locs ls hP hS hl')
theorem zr_i2c (Z : zOK (X, (cc, nL, own, tb), G)) {x : Int32} (hd : decode cc pc = .ok (.i2c, 1)) (K : zGo (X, (cc, nL, own, tb), G) n k (pc + 1, lv, .inl (x.toUInt32 % 65536).toInt32 :: st, M)) : zGo (X, (cc, nL, own, tb), G) n k (pc, lv, .inl x :: st, M) := by
  obtain ⟨p, l, e, R, s, m, args, below, meth, c, Q⟩ := X
  obtain ⟨hx, hc, -⟩ := Z
  exact fun H locs ls hP hS hl => lv_i2c hx hc hd rfl (K H locs ls hP hS hl)
/-- a call on a String constant -/
theorem zcallT {M' : zM} {y : MethodName} {bytes : ByteArray} {maxL : Nat} {ret : Option FieldType} {fr lo na : Nat} {as : List zV} {r : Option zV} (Z : zOK (X, (cc, nL, own, tb), G)) (hw : w < 11) (hM : zMet (zXl X) G y bytes maxL ret fr lo (.inr (.inr (some (2100, w))) :: as) M r M') (hcw : zcw own idx y bytes maxL ret na) (hin : Cond.instanceMethod y ∈ zt) (hse : Cond.selects "java/lang/String" y y ∈ zt) (hn : as.length = na) (hR : fr + 1 ≤ (zXR X).frames ∧ 8 + (maxL + 11) + lo ≤ (zXR X).locals) (hroom : Nat.ble (zwid st) 8 = true) (hd : decode cc pc = .ok (.invokevirtual idx, 3)) (hnk : n ≤ (zXR X).cells ∧ k ≤ (zXR X).slots)
    (K : zGo (X, (cc, nL, own, tb), G) n k (pc + 3, lv, zrv r st, M')) : zGo (X, (cc, nL, own, tb), G) n k (pc, lv, as.reverse ++ .inr (.inr (some (2100, w))) :: st, M) := by
  obtain ⟨p, l, e, R, s, m, args, below, meth, c, Q⟩ := X
  obtain ⟨hx, hc, hml, hown, hts, hK, hG, htb, hE, hlocks⟩ := Z
  intro H locs ls hP hS hl
  obtain ⟨cell, h1, h2, h3, h4⟩ := (hE.2.1.1 w hw).1.kept hS.2.1
  refine zcallX (a := (Value.ref (zgad G (2100, w)) :: as.map (zval (zgad G))).toArray) (rest := st.map (zval (zgad G))) (va_runV (C := "java/lang/String") (b := zgad G (2100, w)) (As := as.map (zval (zgad G))) ⟨hx, hc, hml, hown, hts⟩ hM ⟨zcallB hts hcw hR, hts _ hin, hts _ hse⟩ ⟨zPre_blind G M _, ⟨cell, h1, h2, h3⟩, fun U hU hW => ⟨rfl, va_K.moved hW.alike hK, by rw [hU]; exact hP, zE_moved hE hW hU hS⟩⟩ rfl (by rw [List.length_map]; exact hn) hl.1 (by simp; rfl) (lv_room (by rw [zcat_sum]; exact Nat.le_of_ble_eq_true hroom)) hd hnk) hS (fun H1 locs1 hP1 hS1 => ?_)
  rw [zrv_eq]
  exact K H1 locs1 ls hP1 hS1 hl
theorem zret_n {fr lo : Nat} {ty : FieldType} (Z : zOK (X, (cc, nL, own, tb), G)) (hA : zAt X G fr lo (some ty)) {x : Int32} (hn : narrow ty (.int x) = .int x) (hE : zEnd X G (some (.inl x)) M) (hd : decode cc pc = .ok (.ireturn, 1)) : zGo (X, (cc, nL, own, tb), G) 0 0 (pc, lv, [.inl x], M) := by
  obtain ⟨p, l, e, R, s, m, args, below, meth, c, Q⟩ := X
  obtain ⟨hx, hc, -, -, -, -, -, -, -, hlocks⟩ := Z
  obtain ⟨-, hr⟩ := hA
  cases hE
  exact fun H locs ls hP hS hl => W.zret hx hc hr hn (fun t ht _ => ⟨rfl, ht ▸ hP, hS.F ht⟩) hS.2.2 hd hlocks
end ZSTR
theorem zTok0 (own : String) : zTok own ([], [], []) := ⟨fun _ h => absurd h List.not_mem_nil, fun _ h => absurd h List.not_mem_nil, fun _ h => absurd h List.not_mem_nil⟩
theorem js_coder_cd : Cond.code yJ0_coder_7d493 cJ0_coder_7d493 1 (some .byte) ∈ zt := zt_of (zq_4 (List.mem_of_getElem? (i := 117) rfl)) rfl
theorem js_coder_ni : Cond.initialized yJ0_coder_7d493.cls ∈ zt := zt_of (zq_1 (List.mem_of_getElem? (i := 17) rfl)) rfl
theorem js_coder_in : Cond.instanceMethod yJ0_coder_7d493 ∈ zt := zt_of (zq_4 (List.mem_of_getElem? (i := 115) rfl)) rfl
theorem js_coder_se : Cond.selects "java/lang/String" yJ0_coder_7d493 yJ0_coder_7d493 ∈ zt := zt_of (zq_4 (List.mem_of_getElem? (i := 116) rfl)) rfl
theorem js_isl_cd : Cond.code yJ0_isLatin1_aae02 cJ0_isLatin1_aae02 1 (some .boolean) ∈ zt := zt_of (zq_4 (List.mem_of_getElem? (i := 127) rfl)) rfl
theorem js_isl_ni : Cond.initialized yJ0_isLatin1_aae02.cls ∈ zt := zt_of (zq_1 (List.mem_of_getElem? (i := 17) rfl)) rfl
theorem js_isl_in : Cond.instanceMethod yJ0_isLatin1_aae02 ∈ zt := zt_of (zq_4 (List.mem_of_getElem? (i := 125) rfl)) rfl
theorem js_isl_se : Cond.selects "java/lang/String" yJ0_isLatin1_aae02 yJ0_isLatin1_aae02 ∈ zt := zt_of (zq_4 (List.mem_of_getElem? (i := 126) rfl)) rfl
theorem js_len_cd : Cond.code yJ0_length_8abf5 cJ0_length_8abf5 1 (some .int) ∈ zt := zt_of (zq_4 (List.mem_of_getElem? (i := 113) rfl)) rfl
theorem js_len_ni : Cond.initialized yJ0_length_8abf5.cls ∈ zt := zt_of (zq_1 (List.mem_of_getElem? (i := 17) rfl)) rfl
theorem js_len_in : Cond.instanceMethod yJ0_length_8abf5 ∈ zt := zt_of (zq_4 (List.mem_of_getElem? (i := 111) rfl)) rfl
theorem js_len_se : Cond.selects "java/lang/String" yJ0_length_8abf5 yJ0_length_8abf5 ∈ zt := zt_of (zq_4 (List.mem_of_getElem? (i := 112) rfl)) rfl
theorem js_at_cd : Cond.code yJ0_charAt_5068e cJ0_charAt_5068e 2 (some .char) ∈ zt := zt_of (zq_4 (List.mem_of_getElem? (i := 123) rfl)) rfl
theorem js_at_ni : Cond.initialized yJ0_charAt_5068e.cls ∈ zt := zt_of (zq_1 (List.mem_of_getElem? (i := 17) rfl)) rfl
theorem js_at_in : Cond.instanceMethod yJ0_charAt_5068e ∈ zt := zt_of (zq_4 (List.mem_of_getElem? (i := 121) rfl)) rfl
theorem js_at_se : Cond.selects "java/lang/String" yJ0_charAt_5068e yJ0_charAt_5068e ∈ zt := zt_of (zq_4 (List.mem_of_getElem? (i := 122) rfl)) rfl
theorem js_lat_cd : Cond.code yJ1_charAt_3b067 cJ1_charAt_3b067 2 (some .char) ∈ zt := zt_of (zq_4 (List.mem_of_getElem? (i := 130) rfl)) rfl
theorem js_lat_ni : Cond.initialized yJ1_charAt_3b067.cls ∈ zt := zt_of (zq_1 (List.mem_of_getElem? (i := 18) rfl)) rfl
theorem js_lat_in : Cond.static yJ1_charAt_3b067 ∈ zt := zt_of (zq_4 (List.mem_of_getElem? (i := 129) rfl)) rfl
theorem js_ci_cd : Cond.code yJ0_checkIndex_df160 cJ0_checkIndex_df160 2 (none) ∈ zt := zt_of (zq_4 (List.mem_of_getElem? (i := 133) rfl)) rfl
theorem js_ci_ni : Cond.initialized yJ0_checkIndex_df160.cls ∈ zt := zt_of (zq_1 (List.mem_of_getElem? (i := 17) rfl)) rfl
theorem js_ci_in : Cond.static yJ0_checkIndex_df160 ∈ zt := zt_of (zq_4 (List.mem_of_getElem? (i := 132) rfl)) rfl
theorem js_pci_cd : Cond.code yJ3_checkIndex_8e157 cJ3_checkIndex_8e157 3 (some .int) ∈ zt := zt_of (zq_4 (List.mem_of_getElem? (i := 138) rfl)) rfl
theorem js_pci_ni : Cond.initialized yJ3_checkIndex_8e157.cls ∈ zt := zt_of (zq_1 (List.mem_of_getElem? (i := 19) rfl)) rfl
theorem js_pci_in : Cond.static yJ3_checkIndex_8e157 ∈ zt := zt_of (zq_4 (List.mem_of_getElem? (i := 137) rfl)) rfl
theorem jc_coder : zcw RJ0 335 yJ0_coder_7d493 cJ0_coder_7d493 1 (some .byte) 0 := ⟨zt_of (zq_4 (List.mem_of_getElem? (i := 114) rfl)) rfl, js_coder_cd, js_coder_ni, by decide +kernel, by decide +kernel⟩
theorem jc_isl : zcw RJ0 492 yJ0_isLatin1_aae02 cJ0_isLatin1_aae02 1 (some .boolean) 0 := ⟨zt_of (zq_4 (List.mem_of_getElem? (i := 124) rfl)) rfl, js_isl_cd, js_isl_ni, by decide +kernel, by decide +kernel⟩
theorem jc_lat : zcw RJ0 495 yJ1_charAt_3b067 cJ1_charAt_3b067 2 (some .char) 2 := ⟨zt_of (zq_4 (List.mem_of_getElem? (i := 128) rfl)) rfl, js_lat_cd, js_lat_ni, by decide +kernel, by decide +kernel⟩
theorem jc_ci : zcw RJ1 9 yJ0_checkIndex_df160 cJ0_checkIndex_df160 2 (none) 2 := ⟨zt_of (zq_4 (List.mem_of_getElem? (i := 131) rfl)) rfl, js_ci_cd, js_ci_ni, by decide +kernel, by decide +kernel⟩
theorem jc_pci : zcw RJ0 1059 yJ3_checkIndex_8e157 cJ3_checkIndex_8e157 3 (some .int) 3 := ⟨zt_of (zq_4 (List.mem_of_getElem? (i := 136) rfl)) rfl, js_pci_cd, js_pci_ni, by decide +kernel, by decide +kernel⟩
theorem jf_val : Cond.fieldLink RJ0 9 "java/lang/String" "value" "[B" ∈ zt := zt_of (zq_9 (List.mem_of_getElem? (i := 67) rfl)) rfl
theorem jf_cod : Cond.fieldLink RJ0 15 "java/lang/String" "coder" "B" ∈ zt := zt_of (zq_9 (List.mem_of_getElem? (i := 68) rfl)) rfl
theorem jf_cs : Cond.fieldLink RJ0 38 "java/lang/String" "COMPACT_STRINGS" "Z" ∈ zt := zt_of (zq_4 (List.mem_of_getElem? (i := 118) rfl)) rfl
theorem jf_fmt : Cond.fieldLink RJ0 1053 "jdk/internal/util/Preconditions" "SIOOBE_FORMATTER" "Ljava/util/function/BiFunction;" ∈ zt := zt_of (zq_4 (List.mem_of_getElem? (i := 134) rfl)) rfl
section ZSM
variable {l : Launch} {G : zG} {M : zM} {w : Nat}
theorem js_coder_met (hG : zGok G) (hw : w < 11) : zMet l G yJ0_coder_7d493 cJ0_coder_7d493 1 (some .byte) 0 0 [.inr (.inr (some (2100, w)))] M (some (.inl 0)) M := by
  refine zMet_of hG (zTok0 RJ0) rfl (by decide +kernel) (Nat.le_of_ble_eq_true rfl) (fun X _ Z hA hE => ?_)
  refine zr_cs Z jf_cs (by decide +kernel) ?_
  refine zif_eq Z (off := 10) (tgt := 13) (by decide +kernel) (by decide) (fun h => absurd h (by decide)) (fun _ => ?_)
  refine zblq Z rfl [(.aload 0, 1)] (S' := (7, [(0, .inr (.inr (some (2100, w))))], [.inr (.inr (some (2100, w)))], M)) (b := true) (by decide +kernel) rfl rfl ?_
  refine zr_scod Z hw jf_cod (by decide +kernel) ?_
  refine zblq Z rfl [(.ldc 14, 3)] (S' := (14, [(0, .inr (.inr (some (2100, w))))], [.inl 0], M)) (b := true) (by decide +kernel) rfl rfl ?_
  exact zret_n Z hA rfl hE (by decide +kernel)
theorem js_isl_met (hG : zGok G) (hw : w < 11) : zMet l G yJ0_isLatin1_aae02 cJ0_isLatin1_aae02 1 (some .boolean) 0 0 [.inr (.inr (some (2100, w)))] M (some (.inl 1)) M := by
  refine zMet_of hG (zTok0 RJ0) rfl (by decide +kernel) (Nat.le_of_ble_eq_true rfl) (fun X _ Z hA hE => ?_)
  refine zr_cs Z jf_cs (by decide +kernel) ?_
  refine zif_eq Z (off := 14) (tgt := 17) (by decide +kernel) (by decide) (fun h => absurd h (by decide)) (fun _ => ?_)
  refine zblq Z rfl [(.aload 0, 1)] (S' := (7, [(0, .inr (.inr (some (2100, w))))], [.inr (.inr (some (2100, w)))], M)) (b := true) (by decide +kernel) rfl rfl ?_
  refine zr_scod Z hw jf_cod (by decide +kernel) ?_
  refine zif_ne Z (off := 7) (tgt := 17) (by decide +kernel) (by decide) (fun h => absurd rfl h) (fun _ => ?_)
  refine zblq Z rfl [(.iconst 1, 1), (.ldc 18, 3)] (S' := (18, [(0, .inr (.inr (some (2100, w))))], [.inl 1], M)) (b := true) (by decide +kernel) rfl rfl ?_
  exact zret_n Z hA rfl hE (by decide +kernel)
theorem js_len_met (hG : zGok G) (hw : w < 11) : zMet l G yJ0_length_8abf5 cJ0_length_8abf5 1 (some .int) 1 20 [.inr (.inr (some (2100, w)))] M (some (.inl (zstlen w))) M := by
  refine zMet_of hG (zTok0 RJ0) rfl (by decide +kernel) (Nat.le_of_ble_eq_true rfl) (fun X hX Z hA hE => ?_)
  refine zblq Z rfl [(.aload 0, 1)] (S' := (1, [(0, .inr (.inr (some (2100, w))))], [.inr (.inr (some (2100, w)))], M)) (b := true) (by decide +kernel) rfl rfl ?_
  refine zr_sval Z hw jf_val (by decide +kernel) ?_
  refine zr_blen Z hw (by decide +kernel) ?_
  refine zblq Z rfl [(.aload 0, 1)] (S' := (6, [(0, .inr (.inr (some (2100, w))))], [.inr (.inr (some (2100, w))), .inl (Int32.ofNat (zstL.getD w 0))], M)) (b := true) (by decide +kernel) rfl rfl ?_
  refine zcallT (as := []) (st := [.inl (Int32.ofNat (zstL.getD w 0))]) Z hw (js_coder_met hG hw) jc_coder js_coder_in js_coder_se rfl (zroom hA ⟨by decide, by decide⟩) rfl (by decide +kernel) ⟨Nat.zero_le _, Nat.zero_le _⟩ ?_
  refine zblq Z rfl [(.ishr, 1)] (S' := (10, [(0, .inr (.inr (some (2100, w))))], [.inl (zstlen w)], M)) (b := true) (by decide +kernel) rfl rfl ?_
  exact zret_i Z hA hE (by decide +kernel)
theorem js_pci_met (hG : zGok G) {i n : Int32} {r : Option zR} (h0 : ¬ i < 0) (h1 : i < n) : zMet l G yJ3_checkIndex_8e157 cJ3_checkIndex_8e157 3 (some .int) 0 0 [.inl i, .inl n, .inr (.inr r)] M (some (.inl i)) M := by
  refine zMet_of hG (zTok0 RJ3) rfl (by decide +kernel) (Nat.le_of_ble_eq_true (by cases r <;> rfl)) (fun X _ Z hA hE => ?_)
  refine zGo_sub (lv' := [(0, .inl i), (1, .inl n)]) (fun q hq => ?_) ?_
  · rcases List.mem_cons.mp hq with rfl | hq
    · exact List.mem_cons_self
    · rcases List.mem_cons.mp hq with rfl | hq
      · exact List.mem_cons_of_mem _ List.mem_cons_self
      · exact absurd hq List.not_mem_nil
  refine zblq Z rfl [(.iload 0, 1)] (S' := (1, [(0, .inl i), (1, .inl n)], [.inl i], M)) (b := true) (by decide +kernel) rfl rfl ?_
  refine zif_lt Z (off := 8) (tgt := 9) (by decide +kernel) (by decide) (fun h => absurd h h0) (fun _ => ?_)
  refine zblq Z rfl [(.iload 0, 1), (.iload 1, 1)] (S' := (6, [(0, .inl i), (1, .inl n)], [.inl n, .inl i], M)) (b := true) (by decide +kernel) rfl rfl ?_
  refine zic_lt Z (off := 10) (tgt := 16) (by decide +kernel) (by decide) (fun _ => ?_) (fun h => absurd h1 h)
  refine zblq Z rfl [(.iload 0, 1)] (S' := (17, [(0, .inl i), (1, .inl n)], [.inl i], M)) (b := true) (by decide +kernel) rfl rfl ?_
  exact zret_i Z hA hE (by decide +kernel)
theorem js_ci_met (hG : zGok G) {i n : Int32} (h0 : ¬ i < 0) (h1 : i < n) : zMet l G yJ0_checkIndex_df160 cJ0_checkIndex_df160 2 none 1 22 [.inl i, .inl n] M none M := by
  refine zMet_of hG (zTok0 RJ0) rfl (by decide +kernel) (Nat.le_of_ble_eq_true rfl) (fun X hX Z hA hE => ?_)
  refine zblq Z rfl [(.iload 0, 1), (.iload 1, 1)] (S' := (2, [(0, .inl i), (1, .inl n)], [.inl n, .inl i], M)) (b := true) (by decide +kernel) rfl rfl ?_
  refine zr_fmt Z jf_fmt (by decide +kernel) (fun r => ?_)
  refine zcallS (as := [.inl i, .inl n, .inr (.inr r)]) (st := []) Z (js_pci_met hG h0 h1) jc_pci js_pci_in rfl (zroom hA ⟨by decide, by decide⟩) rfl (by decide +kernel) ⟨Nat.zero_le _, Nat.zero_le _⟩ ?_
  refine zblq Z rfl [(.pop, 1)] (S' := (9, [(0, .inl i), (1, .inl n)], [], M)) (b := true) (by decide +kernel) rfl rfl ?_
  exact zret_v Z hA hE (by decide +kernel)
theorem js_lt {w : Nat} (hw : w < 11) {i : Int32} (hi : zin i (zstL.getD w 0) = true) : ¬ i < 0 ∧ i < Int32.ofNat (zstL.getD w 0) := by
  have h := zin_in hi
  have hL : zstL.getD w 0 < 2 ^ 31 := by
    match w, hw with
    | 0, _ | 1, _ | 2, _ | 3, _ | 4, _ | 5, _ | 6, _ | 7, _ | 8, _ | 9, _ | 10, _ => decide
    | w + 11, h => omega
  refine ⟨fun q => h (Or.inl q), ?_⟩
  obtain ⟨j, hj, rfl⟩ := vp_in_of h hL
  exact nI_lt hj hL
theorem js_lat_met (hG : zGok G) (hw : w < 11) {i : Int32} (hi : zin i (zstL.getD w 0) = true) : zMet l G yJ1_charAt_3b067 cJ1_charAt_3b067 2 (some .char) 2 43 [.inr (.inr (some (2101, w))), .inl i] M (some (.inl (zstch w i))) M := by
  obtain ⟨h0, h1⟩ := js_lt hw hi
  refine zMet_of hG (zTok0 RJ1) rfl (by decide +kernel) (Nat.le_of_ble_eq_true rfl) (fun X hX Z hA hE => ?_)
  refine zblq Z rfl [(.iload 1, 1), (.aload 0, 1)] (S' := (2, [(0, .inr (.inr (some (2101, w)))), (1, .inl i)], [.inr (.inr (some (2101, w))), .inl i], M)) (b := true) (by decide +kernel) rfl rfl ?_
  refine zr_blen Z hw (by decide +kernel) ?_
  refine zcallS (as := [.inl i, .inl (Int32.ofNat (zstL.getD w 0))]) (st := []) Z (js_ci_met hG h0 h1) jc_ci js_ci_in rfl (zroom hA ⟨by decide, by decide⟩) rfl (by decide +kernel) ⟨Nat.zero_le _, Nat.zero_le _⟩ ?_
  refine zblq Z rfl [(.aload 0, 1), (.iload 1, 1)] (S' := (8, [(0, .inr (.inr (some (2101, w)))), (1, .inl i)], [.inl i, .inr (.inr (some (2101, w)))], M)) (b := true) (by decide +kernel) rfl rfl ?_
  refine zr_bald Z hw hi (by decide +kernel) ?_
  refine zblq Z rfl [(.iconst 255, 3), (.iand, 1)] (S' := (13, [(0, .inr (.inr (some (2101, w)))), (1, .inl i)], [.inl ((zstB.getD w []).getD i.toNatClampNeg 0 &&& 255)], M)) (b := true) (by decide +kernel) rfl rfl ?_
  refine zr_i2c Z (by decide +kernel) ?_
  exact zret_n Z hA (pk_nc _) hE (by decide +kernel)
theorem js_at_met (hG : zGok G) (hw : w < 11) {i : Int32} (hi : zin i (zstL.getD w 0) = true) : zMet l G yJ0_charAt_5068e cJ0_charAt_5068e 2 (some .char) 3 64 [.inr (.inr (some (2100, w))), .inl i] M (some (.inl (zstch w i))) M := by
  refine zMet_of hG (zTok0 RJ0) rfl (by decide +kernel) (Nat.le_of_ble_eq_true rfl) (fun X hX Z hA hE => ?_)
  refine zblq Z rfl [(.aload 0, 1)] (S' := (1, [(0, .inr (.inr (some (2100, w)))), (1, .inl i)], [.inr (.inr (some (2100, w)))], M)) (b := true) (by decide +kernel) rfl rfl ?_
  refine zcallT (as := []) (st := []) Z hw (js_isl_met hG hw) jc_isl js_isl_in js_isl_se rfl (zroom hA ⟨by decide, by decide⟩) rfl (by decide +kernel) ⟨Nat.zero_le _, Nat.zero_le _⟩ ?_
  refine zif_eq Z (off := 12) (tgt := 16) (by decide +kernel) (by decide) (fun h => absurd h (by decide)) (fun _ => ?_)
  refine zblq Z rfl [(.aload 0, 1)] (S' := (8, [(0, .inr (.inr (some (2100, w)))), (1, .inl i)], [.inr (.inr (some (2100, w)))], M)) (b := true) (by decide +kernel) rfl rfl ?_
  refine zr_sval Z hw jf_val (by decide +kernel) ?_
  refine zblq Z rfl [(.iload 1, 1)] (S' := (12, [(0, .inr (.inr (some (2100, w)))), (1, .inl i)], [.inl i, .inr (.inr (some (2101, w)))], M)) (b := true) (by decide +kernel) rfl rfl ?_
  refine zcallS (as := [.inr (.inr (some (2101, w))), .inl i]) (st := []) Z (js_lat_met hG hw hi) jc_lat js_lat_in rfl (zroom hA ⟨by decide, by decide⟩) rfl (by decide +kernel) ⟨Nat.zero_le _, Nat.zero_le _⟩ ?_
  exact zret_n Z hA (pk_nc _) hE (by decide +kernel)
end ZSM
