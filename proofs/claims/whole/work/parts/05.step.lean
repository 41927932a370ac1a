/-! the step is sound -/
theorem zval_I {ad : zR → Nat} {v : zV} (h : ztI v = true) : ∃ x : Int32, v = .inl x := by
  rcases v with x | x | r
  · exact ⟨x, rfl⟩
  · cases h
  · cases h
theorem zval_A {v : zV} (h : ztA v = true) : ∃ q : zR, v = .inr (.inr (some q)) := by
  rcases v with x | x | r
  · cases h
  · cases h
  · cases r with
    | none => cases h
    | some q => exact ⟨q, rfl⟩
theorem zval_L {v : zV} (h : z2 v = true) : ∃ x : Int64, v = .inr (.inl x) := by
  rcases v with x | x | r
  · cases h
  · exact ⟨x, rfl⟩
  · cases h
theorem zval_c1 {ad : zR → Nat} {v : zV} (h : z2 v = false) : (zval ad v).category = 1 := by
  rcases v with x | x | r
  · rfl
  · cases h
  · cases r <;> rfl
theorem zlvm {ad : zR → Nat} {ls : Array Slot} {nL i : Nat} {v : zV} {lv : zLv} (hl : lv_has ls nL (lv.map (fun q => (q.1, zval ad q.2)))) (h : (i, v) ∈ lv) : ls[i]? = some (.val (zval ad v)) := hl.2.2 (i, zval ad v) (List.mem_map.mpr ⟨(i, v), h, rfl⟩)
theorem zplain_of {own : String} {tb : zT} {nL pc : Nat} {i : Instr} {n : Nat} {x : Instr} (hp : zplain x = true) (h : zmt own tb nL pc i n x = true) : i = x ∧ n = 1 := by
  cases x <;> first | (cases hp; done) | (simp only [zmt, Bool.and_eq_true, decide_eq_true_eq, beq_iff_eq] at h; exact ⟨h.2.1, h.2.2⟩)
theorem zupd_eq {I : Nat → Nat → Nat → Int32} {k i j : Nat} {x : Int32} : upd (fun j => I k i j) j x = fun j' => zuI I k i j x k i j' := by
  funext q
  by_cases hq : q = j
  · subst hq; simp [upd, zuI]
  · simp [upd, zuI, hq]
theorem zbl_nar {x : Int32} (h : zbl x = true) : narrow .boolean (.int x) = .int x := by
  have h : x = 0 ∨ x = 1 := by simpa [zbl] using h
  rcases h with rfl | rfl <;> rfl
theorem zbl_fit {x : Int32} (h : zbl x = true) : fits .boolean (.int x) = true := by
  have h : x = 0 ∨ x = 1 := by simpa [zbl] using h
  rcases h with rfl | rfl <;> rfl
theorem zsame : ∀ k, k < 13 → ∀ j, j < zof k → (zTt k j).1 = zRt k := by decide +kernel
section ZST
variable {p : Program} {l : Launch} {e : Env} {R : Room} {s : State} {m : MethodId} {args : Array Value} {below : List Frame} {meth : Method} {c : Code} {Q : State → Prop} {cc : ByteArray} {nL : Nat} {own : String} {tb : zT} {G : zG} {n k : Nat} {S S' : zS} {len : Nat} {b : Bool}
abbrev zCm (p : Program) (l : Launch) (e : Env) (R : Room) (s : State) (m : MethodId) (args : Array Value) (below : List Frame) (meth : Method) (c : Code) (Q : State → Prop) (cc : ByteArray) (nL : Nat) (own : String) (tb : zT) (G : zG) : zC := ((p, l, e, R, s, m, args, below, meth, c, Q), (cc, nL, own, tb), G)
theorem zs_I1 {i : Instr} {f : Int32 → zV} (hs : zI1 f len S = some (b, S')) (row : ∀ (H : Heap) (locs : List Loc) (ls : Array Slot) (x : Int32) (rest : List Value), W p l e R s m args below meth c H locs n k Q (F0 m (S.1 + len) ls (zval (zgad G) (f x) :: rest)) → W p l e R s m args below meth c H locs n k Q (F0 m S.1 ls (.int x :: rest))) (K : zGo (zCm p l e R s m args below meth c Q cc nL own tb G) n k S') : zGo (zCm p l e R s m args below meth c Q cc nL own tb G) n k S := by
  obtain ⟨x, st, e1, rfl⟩ := zI1_inv hs
  obtain ⟨pc, lv, st0, M⟩ := S
  dsimp only at e1; subst e1
  exact fun H locs ls hP hS hl => row H locs ls x _ (K H locs ls hP hS hl)
theorem zs_L1 {f : Int64 → zV} (hs : zL1 f len S = some (b, S')) (row : ∀ (H : Heap) (locs : List Loc) (ls : Array Slot) (x : Int64) (rest : List Value), W p l e R s m args below meth c H locs n k Q (F0 m (S.1 + len) ls (zval (zgad G) (f x) :: rest)) → W p l e R s m args below meth c H locs n k Q (F0 m S.1 ls (.long x :: rest))) (K : zGo (zCm p l e R s m args below meth c Q cc nL own tb G) n k S') : zGo (zCm p l e R s m args below meth c Q cc nL own tb G) n k S := by
  obtain ⟨x, st, e1, rfl⟩ := zL1_inv hs
  obtain ⟨pc, lv, st0, M⟩ := S
  dsimp only at e1; subst e1
  exact fun H locs ls hP hS hl => row H locs ls x _ (K H locs ls hP hS hl)
theorem zs_I2 {g : Int32 → Int32 → Bool} {f : Int32 → Int32 → Int32} (hs : zI2 g f len S = some (b, S')) (hb : b = true) (row : ∀ (H : Heap) (locs : List Loc) (ls : Array Slot) (x y : Int32) (rest : List Value), g x y = true → W p l e R s m args below meth c H locs n k Q (F0 m (S.1 + len) ls (.int (f x y) :: rest)) → W p l e R s m args below meth c H locs n k Q (F0 m S.1 ls (.int y :: .int x :: rest))) (K : zGo (zCm p l e R s m args below meth c Q cc nL own tb G) n k S') : zGo (zCm p l e R s m args below meth c Q cc nL own tb G) n k S := by
  obtain ⟨x, y, st, e1, e2, rfl⟩ := zI2_inv hs
  obtain ⟨pc, lv, st0, M⟩ := S
  dsimp only at e1; subst e1
  exact fun H locs ls hP hS hl => row H locs ls x y _ (e2 ▸ hb) (K H locs ls hP hS hl)
theorem zs_L2 {f : Int64 → Int64 → zV} (hs : zL2 f len S = some (b, S')) (row : ∀ (H : Heap) (locs : List Loc) (ls : Array Slot) (x y : Int64) (rest : List Value), W p l e R s m args below meth c H locs n k Q (F0 m (S.1 + len) ls (zval (zgad G) (f x y) :: rest)) → W p l e R s m args below meth c H locs n k Q (F0 m S.1 ls (.long y :: .long x :: rest))) (K : zGo (zCm p l e R s m args below meth c Q cc nL own tb G) n k S') : zGo (zCm p l e R s m args below meth c Q cc nL own tb G) n k S := by
  obtain ⟨x, y, st, e1, rfl⟩ := zL2_inv hs
  obtain ⟨pc, lv, st0, M⟩ := S
  dsimp only at e1; subst e1
  exact fun H locs ls hP hS hl => row H locs ls x y _ (K H locs ls hP hS hl)
theorem zs_LI {f : Int64 → Int32 → Int64} (hs : zLI f len S = some (b, S')) (row : ∀ (H : Heap) (locs : List Loc) (ls : Array Slot) (x : Int64) (y : Int32) (rest : List Value), W p l e R s m args below meth c H locs n k Q (F0 m (S.1 + len) ls (.long (f x y) :: rest)) → W p l e R s m args below meth c H locs n k Q (F0 m S.1 ls (.int y :: .long x :: rest))) (K : zGo (zCm p l e R s m args below meth c Q cc nL own tb G) n k S') : zGo (zCm p l e R s m args below meth c Q cc nL own tb G) n k S := by
  obtain ⟨x, y, st, e1, rfl⟩ := zLI_inv hs
  obtain ⟨pc, lv, st0, M⟩ := S
  dsimp only at e1; subst e1
  exact fun H locs ls hP hS hl => row H locs ls x y _ (K H locs ls hP hS hl)
/-- the sum of all: a step of the small machine is one of the machine's -/
theorem zstep_sound (Z : zOK (zCm p l e R s m args below meth c Q cc nL own tb G)) {i : Instr} {x : Instr} (hd : decode cc S.1 = .ok (i, len)) (hm : zmt own tb nL S.1 i len x = true) (hs : zstep (zgcn G) x len S = some (b, S')) (hb : b = true) (K : zGo (zCm p l e R s m args below meth c Q cc nL own tb G) n k S') : zGo (zCm p l e R s m args below meth c Q cc nL own tb G) n k S := by
  obtain ⟨hx, hc, hml, hown, hts, hK, hG, htb, hE, hlocks⟩ := Z
  cases x <;> first | (cases hs; done) | skip
  case iadd => obtain ⟨rfl, rfl⟩ := zplain_of rfl hm; exact zs_I2 hs hb (fun H locs ls x y rest _ w => lv_iadd hx hc hd w) K
  case isub => obtain ⟨rfl, rfl⟩ := zplain_of rfl hm; exact zs_I2 hs hb (fun H locs ls x y rest _ w => lv_isub hx hc hd w) K
  case imul => obtain ⟨rfl, rfl⟩ := zplain_of rfl hm; exact zs_I2 hs hb (fun H locs ls x y rest _ w => lv_imul hx hc hd w) K
  case iand => obtain ⟨rfl, rfl⟩ := zplain_of rfl hm; exact zs_I2 hs hb (fun H locs ls x y rest _ w => lv_iand hx hc hd w) K
  case ior => obtain ⟨rfl, rfl⟩ := zplain_of rfl hm; exact zs_I2 hs hb (fun H locs ls x y rest _ w => lv_ior hx hc hd w) K
  case ixor => obtain ⟨rfl, rfl⟩ := zplain_of rfl hm; exact zs_I2 hs hb (fun H locs ls x y rest _ w => lv_ixor hx hc hd w) K
  case ishl => obtain ⟨rfl, rfl⟩ := zplain_of rfl hm; exact zs_I2 hs hb (fun H locs ls x y rest _ w => lv_ishl hx hc hd w) K
  case ishr => obtain ⟨rfl, rfl⟩ := zplain_of rfl hm; exact zs_I2 hs hb (fun H locs ls x y rest _ w => lv_ishr hx hc hd w) K
  case iushr => obtain ⟨rfl, rfl⟩ := zplain_of rfl hm; exact zs_I2 hs hb (fun H locs ls x y rest _ w => lv_iushr hx hc hd rfl w) K
  case idiv => obtain ⟨rfl, rfl⟩ := zplain_of rfl hm; exact zs_I2 hs hb (fun H locs ls x y rest g w => lv_idiv hx hc hd (by simpa [znz] using g) w) K
  case irem => obtain ⟨rfl, rfl⟩ := zplain_of rfl hm; exact zs_I2 hs hb (fun H locs ls x y rest g w => lv_irem hx hc hd (by simpa [znz] using g) w) K
  case ineg => obtain ⟨rfl, rfl⟩ := zplain_of rfl hm; exact zs_I1 (i := .ineg) hs (fun H locs ls x rest w => lv_ineg hx hc hd w) K
  case i2l => obtain ⟨rfl, rfl⟩ := zplain_of rfl hm; exact zs_I1 (i := .i2l) hs (fun H locs ls x rest w => lv_i2l hx hc hd rfl w) K
  case l2i => obtain ⟨rfl, rfl⟩ := zplain_of rfl hm; exact zs_L1 hs (fun H locs ls x rest w => lv_l2i hx hc hd rfl w) K
  case ladd => obtain ⟨rfl, rfl⟩ := zplain_of rfl hm; exact zs_L2 hs (fun H locs ls x y rest w => lv_ladd hx hc hd w) K
  case lsub => obtain ⟨rfl, rfl⟩ := zplain_of rfl hm; exact zs_L2 hs (fun H locs ls x y rest w => lv_lsub hx hc hd w) K
  case lmul => obtain ⟨rfl, rfl⟩ := zplain_of rfl hm; exact zs_L2 hs (fun H locs ls x y rest w => lv_lmul hx hc hd w) K
  case land => obtain ⟨rfl, rfl⟩ := zplain_of rfl hm; exact zs_L2 hs (fun H locs ls x y rest w => lv_land hx hc hd w) K
  case lor => obtain ⟨rfl, rfl⟩ := zplain_of rfl hm; exact zs_L2 hs (fun H locs ls x y rest w => lv_lor hx hc hd w) K
  case lcmp => obtain ⟨rfl, rfl⟩ := zplain_of rfl hm; exact zs_L2 hs (fun H locs ls x y rest w => W.lcmp hx hc hd w) K
  case lshl => obtain ⟨rfl, rfl⟩ := zplain_of rfl hm; exact zs_LI hs (fun H locs ls x y rest w => lv_lshl hx hc hd rfl w) K
  case lshr => obtain ⟨rfl, rfl⟩ := zplain_of rfl hm; exact zs_LI hs (fun H locs ls x y rest w => lv_lshr hx hc hd rfl w) K
  case iconst v =>
    obtain ⟨pc, lv, st, M⟩ := S
    cases hs
    intro H locs ls hP hS hl
    have w := K H locs ls hP hS hl
    simp only [zmt] at hm
    split at hm
    · simp only [Bool.and_eq_true, beq_iff_eq] at hm
      obtain ⟨rfl, rfl⟩ := hm
      exact lv_iconst hx hc hd rfl w
    · simp only [Bool.and_eq_true, beq_iff_eq, decide_eq_true_eq] at hm
      obtain ⟨rfl, h2⟩ := hm
      exact lv_bipush hx hc hd h2 w
    · simp only [Bool.and_eq_true, beq_iff_eq, decide_eq_true_eq] at hm
      obtain ⟨rfl, h2⟩ := hm
      exact lv_sipush hx hc hd h2 w
    · simp only [Bool.and_eq_true, beq_iff_eq, List.contains_iff_mem] at hm
      obtain ⟨rfl, h2⟩ := hm
      exact lv_ldc hx hc hown (hts _ (htb.2.1 _ h2)) hd w
    · simp only [Bool.and_eq_true, beq_iff_eq, List.contains_iff_mem] at hm
      obtain ⟨rfl, h2⟩ := hm
      exact lv_ldcw hx hc hown (hts _ (htb.2.1 _ h2)) hd w
    · cases hm
  case goto_w v =>
    obtain ⟨pc, lv, st, M⟩ := S
    cases hs
    intro H locs ls hP hS hl
    have w := K H locs ls hP hS hl
    simp only [zmt] at hm
    split at hm
    · simp only [Bool.and_eq_true, beq_iff_eq, decide_eq_true_eq] at hm
      obtain ⟨rfl, h2⟩ := hm
      exact lv_lconst hx hc hd h2 w
    · simp only [Bool.and_eq_true, beq_iff_eq, List.contains_iff_mem] at hm
      obtain ⟨rfl, h2⟩ := hm
      exact lv_ldc2 hx hc hown (hts _ (htb.2.2 _ h2)) hd w
    · cases hm
  case iload j =>
    obtain ⟨pc, lv, st, M⟩ := S
    obtain ⟨v, h1, h2, rfl⟩ := zld_inv hs
    obtain ⟨y, rfl⟩ := zval_I (ad := zgad G) h2
    intro H locs ls hP hS hl
    have w := K H locs ls hP hS hl
    simp only [zmt] at hm
    split at hm
    · simp only [Bool.and_eq_true, beq_iff_eq] at hm
      obtain ⟨rfl, rfl⟩ := hm
      exact lv_iload hx hc hd (zlvm hl h1) w
    · simp only [Bool.and_eq_true, beq_iff_eq] at hm
      obtain ⟨rfl, h3⟩ := hm
      exact lv_iload_n hx hc hd h3 (zlvm hl h1) w
    · cases hm
  case lload j =>
    obtain ⟨pc, lv, st, M⟩ := S
    obtain ⟨v, h1, h2, rfl⟩ := zld_inv hs
    obtain ⟨y, rfl⟩ := zval_L h2
    intro H locs ls hP hS hl
    have w := K H locs ls hP hS hl
    simp only [zmt] at hm
    split at hm
    · simp only [Bool.and_eq_true, beq_iff_eq] at hm
      obtain ⟨rfl, rfl⟩ := hm
      exact lv_lload hx hc hd (zlvm hl h1) w
    · simp only [Bool.and_eq_true, beq_iff_eq] at hm
      obtain ⟨rfl, h3⟩ := hm
      exact lv_lload_n hx hc hd h3 (zlvm hl h1) w
    · cases hm
  case aload j =>
    obtain ⟨pc, lv, st, M⟩ := S
    obtain ⟨v, h1, h2, rfl⟩ := zld_inv hs
    obtain ⟨y, rfl⟩ := zval_A h2
    intro H locs ls hP hS hl
    have w := K H locs ls hP hS hl
    simp only [zmt] at hm
    split at hm
    · simp only [Bool.and_eq_true, beq_iff_eq] at hm
      obtain ⟨rfl, rfl⟩ := hm
      exact lv_aload hx hc hd (zlvm hl h1) w
    · simp only [Bool.and_eq_true, beq_iff_eq] at hm
      obtain ⟨rfl, h3⟩ := hm
      exact lv_aload_n hx hc hd h3 (zlvm hl h1) w
    · cases hm
  case istore j =>
    obtain ⟨pc, lv, st0, M⟩ := S
    obtain ⟨v, st, e1, h2, rfl⟩ := zso_inv hs
    obtain ⟨y, rfl⟩ := zval_I (ad := zgad G) h2
    dsimp only at e1; subst e1
    intro H locs ls hP hS hl
    simp only [zmt, Bool.and_eq_true, decide_eq_true_eq] at hm
    obtain ⟨hn, hm⟩ := hm
    split at hm
    · simp only [Bool.and_eq_true, beq_iff_eq] at hm
      obtain ⟨rfl, rfl⟩ := hm
      exact lv_istore hx hc hd hl hn rfl (fun ls' h' => K H locs ls' hP hS (zput1_has h'))
    · simp only [Bool.and_eq_true, beq_iff_eq] at hm
      obtain ⟨rfl, h3⟩ := hm
      exact lv_istore_n hx hc hd h3 hl hn rfl (fun ls' h' => K H locs ls' hP hS (zput1_has h'))
    · cases hm
  case astore j =>
    obtain ⟨pc, lv, st0, M⟩ := S
    obtain ⟨v, st, e1, h2, rfl⟩ := zso_inv hs
    obtain ⟨y, rfl⟩ := zval_A h2
    dsimp only at e1; subst e1
    intro H locs ls hP hS hl
    simp only [zmt, Bool.and_eq_true, decide_eq_true_eq] at hm
    obtain ⟨hn, hm⟩ := hm
    split at hm
    · simp only [Bool.and_eq_true, beq_iff_eq] at hm
      obtain ⟨rfl, rfl⟩ := hm
      exact lv_astore hx hc hd hl hn rfl (fun ls' h' => K H locs ls' hP hS (zput1_has h'))
    · simp only [Bool.and_eq_true, beq_iff_eq] at hm
      obtain ⟨rfl, h3⟩ := hm
      exact lv_astore_n hx hc hd h3 hl hn rfl (fun ls' h' => K H locs ls' hP hS (zput1_has h'))
    · cases hm
  case lstore j =>
    obtain ⟨pc, lv, st0, M⟩ := S
    obtain ⟨y, st, e1, rfl⟩ := zsoL_inv hs
    dsimp only at e1; subst e1
    intro H locs ls hP hS hl
    simp only [zmt, Bool.and_eq_true, decide_eq_true_eq] at hm
    obtain ⟨hn, hm⟩ := hm
    split at hm
    · simp only [Bool.and_eq_true, beq_iff_eq] at hm
      obtain ⟨rfl, rfl⟩ := hm
      exact lv_lstore hx hc hd hl hn rfl (fun ls' h' => K H locs ls' hP hS (zput2_has h'))
    · simp only [Bool.and_eq_true, beq_iff_eq] at hm
      obtain ⟨rfl, h3⟩ := hm
      exact lv_lstore_n hx hc hd h3 hl hn rfl (fun ls' h' => K H locs ls' hP hS (zput2_has h'))
    · cases hm
  case iinc j v =>
    obtain ⟨pc, lv, st, M⟩ := S
    obtain ⟨y, h1, rfl⟩ := zinc_inv hs
    intro H locs ls hP hS hl
    simp only [zmt, Bool.and_eq_true, decide_eq_true_eq] at hm
    obtain ⟨hn, hm⟩ := hm
    split at hm
    · simp only [Bool.and_eq_true, beq_iff_eq] at hm
      obtain ⟨rfl, rfl, rfl⟩ := hm
      obtain ⟨kk, hkk⟩ := List.getElem?_of_mem (List.mem_map.mpr ⟨_, h1, rfl⟩ : (_, zval (zgad G) (.inl y)) ∈ lv.map (fun q => (q.1, zval (zgad G) q.2)))
      exact lv_iinc hx hc hd hl hkk rfl hn rfl (fun ls' h' => K H locs ls' hP hS (zput1_has h'))
    · cases hm
  case dup =>
    obtain ⟨rfl, rfl⟩ := zplain_of rfl hm
    obtain ⟨pc, lv, st, M⟩ := S
    simp only [zstep, zdup] at hs
    split at hs
    · split at hs
      · rename_i h2
        cases hs
        exact fun H locs ls hP hS hl => lv_dup hx hc hd (zval_c1 h2) (K H locs ls hP hS hl)
      · cases hs
    · cases hs
  case dup2 =>
    obtain ⟨rfl, rfl⟩ := zplain_of rfl hm
    obtain ⟨pc, lv, st, M⟩ := S
    simp only [zstep, zdup2] at hs
    split at hs
    · split at hs
      · rename_i h2
        split at hs
        · rename_i h3
          cases hs
          exact fun H locs ls hP hS hl => lv_dup2_11 hx hc hd (zval_c1 h2) (zval_c1 h3) (K H locs ls hP hS hl)
        · cases hs
      · cases hs
    · cases hs
  case pop =>
    obtain ⟨rfl, rfl⟩ := zplain_of rfl hm
    obtain ⟨pc, lv, st, M⟩ := S
    simp only [zstep, zpop] at hs
    split at hs
    · split at hs
      · rename_i h2
        cases hs
        exact fun H locs ls hP hS hl => lv_pop hx hc hd (zval_c1 h2) (K H locs ls hP hS hl)
      · cases hs
    · cases hs
  case ldc t =>
    obtain ⟨pc, lv, st, M⟩ := S
    cases hs
    intro H locs ls hP hS hl
    have w := K H locs ls hP hS hl
    simp only [zmt] at hm
    split at hm
    · simp only [Bool.and_eq_true, beq_iff_eq, decide_eq_true_eq] at hm
      obtain ⟨rfl, h2⟩ := hm
      exact lv_goto hx hc hd h2 w
    · cases hm
  case getstatic t =>
    obtain ⟨pc, lv, st, M⟩ := S
    cases hs
    intro H locs ls hP hS hl
    have w := K H locs ls hP hS hl
    simp only [zmt] at hm
    split at hm
    · simp only [Bool.and_eq_true, beq_iff_eq, decide_eq_true_eq] at hm
      obtain ⟨rfl, h2, h3⟩ := hm
      exact va_gets hx hc (hE.1 t h2).1 hS hown (hts _ h3) (fun _ h => h) hd w
    · cases hm
  case multianewarray kk ss =>
    obtain ⟨pc, lv, st0, M⟩ := S
    simp only [zstep] at hs
    obtain ⟨i0, st, e1, e2, rfl⟩ := zgf_inv hs
    dsimp only at e1; subst e1
    obtain ⟨q0, hq⟩ := zlive hG (e2 ▸ hb : Nat.blt i0 (zgcn G kk) = true)
    intro H locs ls hP hS hl
    have w := K H locs ls hP hS hl
    simp only [zmt] at hm
    split at hm
    · simp only [Bool.and_eq_true, Bool.or_eq_true, beq_iff_eq, decide_eq_true_eq, List.contains_iff_mem] at hm
      obtain ⟨rfl, h1, h2, h3, h4⟩ := hm
      refine va_get (v := .int (M.1 kk i0 ss)) hx hc hts (zcl_in kk h3) hown hK hP q0 ((zws_at hq).trans (by rw [zcell_obj h3])) (zcl_at kk h3) ss h4 (hts _ (htb.1 _ h1)) (fun _ h => ?_) ?_ hd w
      · exact zsame kk h3 ss h4 ▸ h
      · rw [List.getElem?_map, List.getElem?_range h4]
        simp only [Option.map_some, zfv]
        rcases h2 with h2 | h2 <;> (rw [h2]; rfl)
    · cases hm
  case getfield qq =>
    obtain ⟨pc, lv, st0, M⟩ := S
    simp only [zstep] at hs
    obtain ⟨i0, st, e1, e2, rfl⟩ := zgf_inv hs
    dsimp only at e1; subst e1
    obtain ⟨q0, hq⟩ := zlive hG (e2 ▸ hb : Nat.blt i0 (zgcn G (qq / 100)) = true)
    intro H locs ls hP hS hl
    have w := K H locs ls hP hS hl
    simp only [zmt] at hm
    split at hm
    · simp only [Bool.and_eq_true, beq_iff_eq, decide_eq_true_eq, List.contains_iff_mem] at hm
      obtain ⟨rfl, h1, h2, h3, h4⟩ := hm
      refine va_get (v := va_rf ((M.2.2 (qq / 100) i0 (qq % 100)).map (zgad G))) hx hc hts (zcl_in _ h3) hown hK hP q0 ((zws_at hq).trans (by rw [zcell_obj h3])) (zcl_at _ h3) _ h4 (hts _ (htb.1 _ h1)) (fun _ h => ?_) ?_ hd w
      · exact zsame _ h3 _ h4 ▸ h
      · rw [List.getElem?_map, List.getElem?_range h4]
        simp only [Option.map_some, zfv]
        rw [h2]; rfl
    · cases hm
  case anewarray qq =>
    obtain ⟨pc, lv, st0, M⟩ := S
    simp only [zstep] at hs
    obtain ⟨i0, st, e1, e2, rfl⟩ := zgf_inv hs
    dsimp only at e1; subst e1
    obtain ⟨q0, hq⟩ := zlive hG (e2 ▸ hb : Nat.blt i0 (zgcn G (qq / 100)) = true)
    intro H locs ls hP hS hl
    have w := K H locs ls hP hS hl
    simp only [zmt] at hm
    split at hm
    · simp only [Bool.and_eq_true, beq_iff_eq, decide_eq_true_eq, List.contains_iff_mem] at hm
      obtain ⟨rfl, h1, h2, h3, h4⟩ := hm
      refine va_get (v := .long (M.2.1 (qq / 100) i0 (qq % 100))) hx hc hts (zcl_in _ h3) hown hK hP q0 ((zws_at hq).trans (by rw [zcell_obj h3])) (zcl_at _ h3) _ h4 (hts _ (htb.1 _ h1)) (fun _ h => ?_) ?_ hd w
      · exact zsame _ h3 _ h4 ▸ h
      · rw [List.getElem?_map, List.getElem?_range h4]
        simp only [Option.map_some, zfv]
        rw [h2]; rfl
    · cases hm
  case iaload =>
    obtain ⟨rfl, rfl⟩ := zplain_of rfl hm
    obtain ⟨pc, lv, st0, M⟩ := S
    simp only [zstep] at hs
    rcases zal_inv hs with ⟨j, kk, i0, st, e1, e2, e3, rfl⟩ | ⟨j, w, st, -, e1, e3, rfl⟩
    · dsimp only at e1; subst e1
      have hb2 : (Nat.blt i0 (zgcn G kk) && zin j (zak kk).2) = true := e3 ▸ hb
      rw [Bool.and_eq_true] at hb2
      obtain ⟨q0, hq⟩ := zlive hG hb2.1
      intro H locs ls hP hS hl
      refine va_iald (tys := ztys (zgca G)) hx hc hK hP q0 0 (cA := zgca G 0) (n := (zak kk).2) (f := fun j => M.1 kk i0 j) ((zws_at hq).trans ?_) rfl (zin_in hb2.2) hd (K H locs ls hP hS hl)
      rw [zcell_arr (zak_arr (by rw [e2]; decide))]
      unfold zac
      rw [e2]; rfl
    · dsimp only at e1; subst e1
      have hb2 : (Nat.blt w 3 && zin j (zsl w)) = true := e3 ▸ hb
      rw [Bool.and_eq_true] at hb2
      obtain ⟨-, h1⟩ := hE.1 w (zblt_t.mp hb2.1)
      exact fun H locs ls hP hS hl => va_ti hx hc h1 hS (zin_in hb2.2) rfl hd (K H locs ls hP hS hl)
  case baload =>
    obtain ⟨rfl, rfl⟩ := zplain_of rfl hm
    obtain ⟨pc, lv, st0, M⟩ := S
    simp only [zstep] at hs
    rcases zal_inv hs with ⟨j, kk, i0, st, e1, e2, e3, rfl⟩ | ⟨j, w, st, ht, -⟩
    · dsimp only at e1; subst e1
      have hb2 : (Nat.blt i0 (zgcn G kk) && zin j (zak kk).2) = true := e3 ▸ hb
      rw [Bool.and_eq_true] at hb2
      obtain ⟨q0, hq⟩ := zlive hG hb2.1
      intro H locs ls hP hS hl
      refine va_zald (tys := ztys (zgca G)) hx hc hK hP q0 1 (cA := zgca G 1) (n := (zak kk).2) (f := fun j => M.1 kk i0 j) ((zws_at hq).trans ?_) rfl (zin_in hb2.2) hd (K H locs ls hP hS hl)
      rw [zcell_arr (zak_arr (by rw [e2]; decide))]
      unfold zac
      rw [e2]; rfl
    · exact absurd ht (by decide)
  case arraylength =>
    obtain ⟨rfl, rfl⟩ := zplain_of rfl hm
    obtain ⟨pc, lv, st0, M⟩ := S
    simp only [zstep] at hs
    obtain ⟨kk, i0, st, e1, h1, h2, e3, rfl⟩ := zlen_inv hs
    dsimp only at e1; subst e1
    obtain ⟨q0, hq⟩ := zlive hG (e3 ▸ hb : Nat.blt i0 (zgcn G kk) = true)
    obtain ⟨ty, hty⟩ : ∃ ty, (ztys (zgca G))[(zak kk).1]? = some (zgca G (zak kk).1, ty) := by
      generalize (zak kk).1 = t at h2
      match t, h2 with
      | 0, _ => exact ⟨_, rfl⟩
      | 1, _ => exact ⟨_, rfl⟩
      | 2, _ => exact ⟨_, rfl⟩
      | 3, _ => exact ⟨_, rfl⟩
      | t + 4, h => omega
    intro H locs ls hP hS hl
    refine va_alen (tys := ztys (zgca G)) hx hc hK hP q0 (zak kk).1 (x := zac (zgad G) M kk i0) ((zws_at hq).trans ?_) hty rfl hd (K H locs ls hP hS hl)
    rw [zcell_arr h1]
  case aaload =>
    obtain ⟨rfl, rfl⟩ := zplain_of rfl hm
    obtain ⟨pc, lv, st0, M⟩ := S
    simp only [zstep] at hs
    split at hs
    · rename_i j kk i0 st
      split at hs
      · split at hs
        · rename_i h1
          split at hs
          · rename_i h2
            injection hs with hs
            injection hs with e3 hs
            subst hs
            have h1 := zblt_t.mp h1
            have h2 := zblt_t.mp h2
            have hb2 : (Nat.blt i0 (zgcn G kk) && zin j (zak kk).2) = true := e3 ▸ hb
            rw [Bool.and_eq_true] at hb2
            obtain ⟨q0, hq⟩ := zlive hG hb2.1
            obtain ⟨C0, hty⟩ : ∃ C0, (ztys (zgca G))[(zak kk).1]? = some (zgca G (zak kk).1, FieldType.object C0) := by
              generalize (zak kk).1 = t at h1 h2
              match t, h1, h2 with
              | 2, _, _ => exact ⟨_, rfl⟩
              | 3, _, _ => exact ⟨_, rfl⟩
              | 0, h, _ => omega
              | 1, h, _ => omega
              | t + 4, _, h => omega
            intro H locs ls hP hS hl
            refine va_aldq (tys := ztys (zgca G)) hx hc hK hP q0 (zak kk).1 (cA := zgca G (zak kk).1) (n := (zak kk).2) (f := fun j => (M.2.2 kk i0 j).map (zgad G)) ((zws_at hq).trans ?_) hty (zin_in hb2.2) hd (K H locs ls hP hS hl)
            rw [zcell_arr (zak_arr h2)]
            unfold zac
            generalize (zak kk).1 = t at h1 h2
            match t, h1, h2 with
            | 2, _, _ => rfl
            | 3, _, _ => rfl
            | 0, h, _ => omega
            | 1, h, _ => omega
            | t + 4, _, h => omega
          · cases hs
        · cases hs
      · cases hs
    · cases hs
  case invokeinterface kk ss =>
    obtain ⟨pc, lv, st0, M⟩ := S
    simp only [zstep] at hs
    obtain ⟨x, i0, st, e1, e2, rfl⟩ := zpf_inv hs
    dsimp only at e1; subst e1
    have hb2 : (Nat.blt i0 (zgcn G kk) && true) = true := e2 ▸ hb
    rw [Bool.and_eq_true] at hb2
    obtain ⟨q0, hq⟩ := zlive hG hb2.1
    intro H locs ls hP hS hl
    simp only [zmt] at hm
    split at hm
    · simp only [Bool.and_eq_true, beq_iff_eq, decide_eq_true_eq, List.contains_iff_mem] at hm
      obtain ⟨rfl, h1, h2, h3, h4, h5⟩ := hm
      have hty := (ztag_ok kk h3 ss h4).1 h2
      refine va_put (ty := .int) hx hc hts (zcl_in kk h3) (ztt kk) (zcl_ty kk h3) (zcl_nm kk h3) hown hK hP (zws_D hG M) hS q0 ((zws_at hq).trans (by rw [zcell_obj h3])) (zcl_at kk h3) ss h4 (hts _ (htb.1 _ h1)) (fun _ h => ?_) h5 (by rw [zcl_ty kk h3 ss h4, hty]) rfl rfl (by simpa using h4) hd (fun H1 locs1 hP1 _ hS1 => ?_)
      · exact zsame kk h3 ss h4 ▸ h
      · rw [zws_set (M' := (zuI M.1 kk i0 ss x, M.2)) hG hq ?_ (fun q' hq' => zcell_uI hq')] at hP1
        · exact K H1 locs1 ls hP1 hS1 hl
        · rw [zcell_obj h3]
          congr 2
          refine zrange_set ?_ (fun j hj => ?_)
          · unfold zfv; rw [h2]; simp only [zuI_same]; rfl
          · unfold zfv; simp only [zuI_s hj]
    · cases hm
  case invokedynamic qq =>
    obtain ⟨pc, lv, st0, M⟩ := S
    simp only [zstep] at hs
    obtain ⟨x, i0, st, e1, e2, rfl⟩ := zpf_inv hs
    dsimp only at e1; subst e1
    have hb2 : (Nat.blt i0 (zgcn G (qq / 100)) && zbl x) = true := e2 ▸ hb
    rw [Bool.and_eq_true] at hb2
    obtain ⟨q0, hq⟩ := zlive hG hb2.1
    intro H locs ls hP hS hl
    simp only [zmt] at hm
    split at hm
    · simp only [Bool.and_eq_true, beq_iff_eq, decide_eq_true_eq, List.contains_iff_mem] at hm
      obtain ⟨rfl, h1, h2, h3, h4, h5⟩ := hm
      have hty := (ztag_ok _ h3 _ h4).2.1 h2
      have hx1 := hb2.2
      refine va_put (ty := .boolean) hx hc hts (zcl_in _ h3) (ztt _) (zcl_ty _ h3) (zcl_nm _ h3) hown hK hP (zws_D hG M) hS q0 ((zws_at hq).trans (by rw [zcell_obj h3])) (zcl_at _ h3) _ h4 (hts _ (htb.1 _ h1)) (fun _ h => ?_) h5 (by rw [zcl_ty _ h3 _ h4, hty]) (zbl_nar hx1) (zbl_fit hx1) (by simpa using h4) hd (fun H1 locs1 hP1 _ hS1 => ?_)
      · exact zsame _ h3 _ h4 ▸ h
      · rw [zws_set (M' := (zuI M.1 (qq / 100) i0 (qq % 100) x, M.2)) hG hq ?_ (fun q' hq' => zcell_uI hq')] at hP1
        · exact K H1 locs1 ls hP1 hS1 hl
        · rw [zcell_obj h3]
          congr 2
          refine zrange_set ?_ (fun j hj => ?_)
          · unfold zfv; rw [h2]; simp only [zuI_same]; rfl
          · unfold zfv; simp only [zuI_s hj]
    · cases hm
  case checkcast qq =>
    obtain ⟨pc, lv, st0, M⟩ := S
    simp only [zstep] at hs
    obtain ⟨x, i0, st, e1, e2, rfl⟩ := zpfL_inv hs
    dsimp only at e1; subst e1
    obtain ⟨q0, hq⟩ := zlive hG (e2 ▸ hb : Nat.blt i0 (zgcn G (qq / 100)) = true)
    intro H locs ls hP hS hl
    simp only [zmt] at hm
    split at hm
    · simp only [Bool.and_eq_true, beq_iff_eq, decide_eq_true_eq, List.contains_iff_mem] at hm
      obtain ⟨rfl, h1, h2, h3, h4, h5⟩ := hm
      have hty := (ztag_ok _ h3 _ h4).2.2 h2
      refine va_put (ty := .long) hx hc hts (zcl_in _ h3) (ztt _) (zcl_ty _ h3) (zcl_nm _ h3) hown hK hP (zws_D hG M) hS q0 ((zws_at hq).trans (by rw [zcell_obj h3])) (zcl_at _ h3) _ h4 (hts _ (htb.1 _ h1)) (fun _ h => ?_) h5 (by rw [zcl_ty _ h3 _ h4, hty]) rfl rfl (by simpa using h4) hd (fun H1 locs1 hP1 _ hS1 => ?_)
      · exact zsame _ h3 _ h4 ▸ h
      · rw [zws_set (M' := (M.1, zuL M.2.1 (qq / 100) i0 (qq % 100) x, M.2.2)) hG hq ?_ (fun q' hq' => zcell_uL hq')] at hP1
        · exact K H1 locs1 ls hP1 hS1 hl
        · rw [zcell_obj h3]
          congr 2
          refine zrange_set ?_ (fun j hj => ?_)
          · unfold zfv; rw [h2]; simp only [zuL_same]; rfl
          · unfold zfv; simp only [zuL_s hj]
    · cases hm
  case iastore =>
    obtain ⟨rfl, rfl⟩ := zplain_of rfl hm
    obtain ⟨pc, lv, st0, M⟩ := S
    simp only [zstep] at hs
    obtain ⟨x, j, kk, i0, st, e1, e2, e3, rfl⟩ := zas_inv hs
    dsimp only at e1; subst e1
    have hb2 : (Nat.blt i0 (zgcn G kk) && zin j (zak kk).2) = true := e3 ▸ hb
    rw [Bool.and_eq_true] at hb2
    obtain ⟨q0, hq⟩ := zlive hG hb2.1
    intro H locs ls hP hS hl
    refine va_iast (tys := ztys (zgca G)) hx hc hK hP (zws_D hG M) hS q0 0 (cA := zgca G 0) (n := (zak kk).2) (f := fun j => M.1 kk i0 j) ((zws_at hq).trans ?_) rfl (zin_in hb2.2) hd (fun H1 locs1 hP1 _ hS1 => ?_)
    · rw [zcell_arr (zak_arr (by rw [e2]; decide))]
      unfold zac
      rw [e2]; rfl
    · rw [zws_set (M' := (zuI M.1 kk i0 j.toNatClampNeg x, M.2)) hG hq ?_ (fun q' hq' => zcell_uI hq')] at hP1
      · exact K H1 locs1 ls hP1 hS1 hl
      · rw [zcell_arr (zak_arr (by rw [e2]; decide))]
        unfold zac
        rw [e2]
        show Sum.inl (zgca G 0, (zak kk).2, Sum.inl _) = Sum.inl (zgca G 0, (zak kk).2, Sum.inl _)
        rw [zupd_eq]
  case bastore =>
    obtain ⟨rfl, rfl⟩ := zplain_of rfl hm
    obtain ⟨pc, lv, st0, M⟩ := S
    simp only [zstep] at hs
    obtain ⟨x, j, kk, i0, st, e1, e2, e3, rfl⟩ := zas_inv hs
    dsimp only at e1; subst e1
    have hb2 : (Nat.blt i0 (zgcn G kk) && zin j (zak kk).2) = true := e3 ▸ hb
    rw [Bool.and_eq_true] at hb2
    obtain ⟨q0, hq⟩ := zlive hG hb2.1
    intro H locs ls hP hS hl
    refine va_zast (tys := ztys (zgca G)) hx hc hK hP (zws_D hG M) hS q0 1 (cA := zgca G 1) (n := (zak kk).2) (f := fun j => M.1 kk i0 j) ((zws_at hq).trans ?_) rfl (zin_in hb2.2) hd (fun H1 locs1 hP1 _ hS1 => ?_)
    · rw [zcell_arr (zak_arr (by rw [e2]; decide))]
      unfold zac
      rw [e2]; rfl
    · rw [zws_set (M' := (zuI M.1 kk i0 j.toNatClampNeg (vp_nar .boolean x), M.2)) hG hq ?_ (fun q' hq' => zcell_uI hq')] at hP1
      · exact K H1 locs1 ls hP1 hS1 hl
      · rw [zcell_arr (zak_arr (by rw [e2]; decide))]
        unfold zac
        rw [e2]
        show Sum.inl (zgca G 1, (zak kk).2, Sum.inl _) = Sum.inl (zgca G 1, (zak kk).2, Sum.inl _)
        rw [zupd_eq]
end ZST
