/-! runs of steps, branches, returns, calls, methods -/
theorem zstep_pc {cn : Nat → Nat} {x : Instr} {n : Nat} {S S' : zS} {b : Bool} (hs : zstep cn x n S = some (b, S')) : S'.1 = znext x S.1 n := by
  cases x <;> first | (cases hs; done) | (cases hs; rfl) | skip
  all_goals simp only [zstep] at hs
  case iload => obtain ⟨_, _, _, rfl⟩ := zld_inv hs; rfl
  case lload => obtain ⟨_, _, _, rfl⟩ := zld_inv hs; rfl
  case aload => obtain ⟨_, _, _, rfl⟩ := zld_inv hs; rfl
  case istore => obtain ⟨_, _, _, _, rfl⟩ := zso_inv hs; rfl
  case astore => obtain ⟨_, _, _, _, rfl⟩ := zso_inv hs; rfl
  case lstore => obtain ⟨_, _, _, rfl⟩ := zsoL_inv hs; rfl
  case iinc => obtain ⟨_, _, rfl⟩ := zinc_inv hs; rfl
  case iadd => obtain ⟨_, _, _, _, _, rfl⟩ := zI2_inv hs; rfl
  case isub => obtain ⟨_, _, _, _, _, rfl⟩ := zI2_inv hs; rfl
  case imul => obtain ⟨_, _, _, _, _, rfl⟩ := zI2_inv hs; rfl
  case iand => obtain ⟨_, _, _, _, _, rfl⟩ := zI2_inv hs; rfl
  case ior => obtain ⟨_, _, _, _, _, rfl⟩ := zI2_inv hs; rfl
  case ixor => obtain ⟨_, _, _, _, _, rfl⟩ := zI2_inv hs; rfl
  case ishl => obtain ⟨_, _, _, _, _, rfl⟩ := zI2_inv hs; rfl
  case ishr => obtain ⟨_, _, _, _, _, rfl⟩ := zI2_inv hs; rfl
  case iushr => obtain ⟨_, _, _, _, _, rfl⟩ := zI2_inv hs; rfl
  case idiv => obtain ⟨_, _, _, _, _, rfl⟩ := zI2_inv hs; rfl
  case irem => obtain ⟨_, _, _, _, _, rfl⟩ := zI2_inv hs; rfl
  case ineg => obtain ⟨_, _, _, rfl⟩ := zI1_inv hs; rfl
  case i2l => obtain ⟨_, _, _, rfl⟩ := zI1_inv hs; rfl
  case l2i => obtain ⟨_, _, _, rfl⟩ := zL1_inv hs; rfl
  case ladd => obtain ⟨_, _, _, _, rfl⟩ := zL2_inv hs; rfl
  case lsub => obtain ⟨_, _, _, _, rfl⟩ := zL2_inv hs; rfl
  case lmul => obtain ⟨_, _, _, _, rfl⟩ := zL2_inv hs; rfl
  case land => obtain ⟨_, _, _, _, rfl⟩ := zL2_inv hs; rfl
  case lor => obtain ⟨_, _, _, _, rfl⟩ := zL2_inv hs; rfl
  case lcmp => obtain ⟨_, _, _, _, rfl⟩ := zL2_inv hs; rfl
  case lshl => obtain ⟨_, _, _, _, rfl⟩ := zLI_inv hs; rfl
  case lshr => obtain ⟨_, _, _, _, rfl⟩ := zLI_inv hs; rfl
  case dup => simp only [zdup] at hs; repeat' split at hs
              all_goals first | (cases hs; done) | (cases hs; rfl)
  case dup2 => simp only [zdup2] at hs; repeat' split at hs
               all_goals first | (cases hs; done) | (cases hs; rfl)
  case pop => simp only [zpop] at hs; repeat' split at hs
              all_goals first | (cases hs; done) | (cases hs; rfl)
  case multianewarray => obtain ⟨_, _, _, _, rfl⟩ := zgf_inv hs; rfl
  case getfield => obtain ⟨_, _, _, _, rfl⟩ := zgf_inv hs; rfl
  case anewarray => obtain ⟨_, _, _, _, rfl⟩ := zgf_inv hs; rfl
  case invokeinterface => obtain ⟨_, _, _, _, _, rfl⟩ := zpf_inv hs; rfl
  case invokedynamic => obtain ⟨_, _, _, _, _, rfl⟩ := zpf_inv hs; rfl
  case checkcast => obtain ⟨_, _, _, _, _, rfl⟩ := zpfL_inv hs; rfl
  case iaload => rcases zal_inv hs with ⟨_, _, _, _, _, _, _, rfl⟩ | ⟨_, _, _, _, _, _, rfl⟩ <;> rfl
  case baload => rcases zal_inv hs with ⟨_, _, _, _, _, _, _, rfl⟩ | ⟨_, _, _, _, _, _, rfl⟩ <;> rfl
  case iastore => obtain ⟨_, _, _, _, _, _, _, _, rfl⟩ := zas_inv hs; rfl
  case bastore => obtain ⟨_, _, _, _, _, _, _, _, rfl⟩ := zas_inv hs; rfl
  case arraylength => obtain ⟨_, _, _, _, _, _, _, rfl⟩ := zlen_inv hs; rfl
  case aaload => repeat' split at hs
                 all_goals first | (cases hs; done) | (injection hs with hs; injection hs with h1 h2; subst h2; rfl)
abbrev zX : Type := Program × Launch × Env × Room × State × MethodId × Array Value × List Frame × Method × Code × (State → Prop)
theorem zrun_sound {X : zX} {cc : ByteArray} {nL : Nat} {own : String} {tb : zT} {G : zG} {n k : Nat} (Z : zOK (X, (cc, nL, own, tb), G)) : ∀ {blk : List (Instr × Nat)} {S S' : zS} {b : Bool}, zok cc own tb nL S.1 blk = true → zrun (zgcn G) blk S = some (b, S') → b = true → zGo (X, (cc, nL, own, tb), G) n k S' → zGo (X, (cc, nL, own, tb), G) n k S := by
  obtain ⟨p, l, e, R, s, m, args, below, meth, c, Q⟩ := X
  intro blk
  induction blk with
  | nil =>
    intro S S' b _ hr _ K
    cases hr
    exact K
  | cons x blk ih =>
    intro S S' b ho hr hb K
    simp only [zrun] at hr
    split at hr
    · cases hr
    · rename_i c1 S1 h1
      split at hr
      · cases hr
      · rename_i d S2 h2
        injection hr with hr
        injection hr with e1 e2
        subst e2
        rw [← e1, Bool.and_eq_true] at hb
        simp only [zok, Bool.and_eq_true] at ho
        obtain ⟨ho1, ho2⟩ := ho
        split at ho1
        · rename_i i n' hd
          simp only [Bool.and_eq_true, beq_iff_eq] at ho1
          obtain ⟨rfl, hm⟩ := ho1
          refine zstep_sound Z hd hm h1 hb.1 (ih ?_ h2 hb.2 K)
          rw [zstep_pc h1]
          exact ho2
        · cases ho1
/-- a block -/
theorem zblk {X : zX} {cc : ByteArray} {nL : Nat} {own : String} {tb : zT} {G : zG} {n k : Nat} (Z : zOK (X, (cc, nL, own, tb), G)) {cn : Nat → Nat} (hcn : zgcn G = cn) (blk : List (Instr × Nat)) {S S' : zS} {b : Bool} (ho : zok cc own tb nL S.1 blk = true) (hr : zrun cn blk S = some (b, S')) (hb : b = true) (K : zGo (X, (cc, nL, own, tb), G) n k S') : zGo (X, (cc, nL, own, tb), G) n k S := by
  subst hcn
  exact zrun_sound Z ho hr hb K
section ZBR
variable {X : zX} {cc : ByteArray} {nL : Nat} {own : String} {tb : zT} {G : zG} {n k : Nat} {pc tgt : Nat} {off : Int} {lv : zLv} {st : List zV} {M : zM} {x y : Int32}
theorem zif_eq (Z : zOK (X, (cc, nL, own, tb), G)) (hd : decode cc pc = .ok (.ifCond .eq off, 3)) (ht : (pc : Int) + off = (tgt : Int)) (kt : x = 0 → zGo (X, (cc, nL, own, tb), G) n k (tgt, lv, st, M)) (kf : ¬ (x = 0) → zGo (X, (cc, nL, own, tb), G) n k (pc + 3, lv, st, M)) : zGo (X, (cc, nL, own, tb), G) n k (pc, lv, .inl x :: st, M) := by
  obtain ⟨p, l, e, R, s, m, args, below, meth, c, Q⟩ := X
  obtain ⟨hx, hc, -⟩ := Z
  exact fun H locs ls hP hS hl => lv_if_eq hx hc hd ht (fun h => kt h H locs ls hP hS hl) (fun h => kf h H locs ls hP hS hl)
theorem zic_eq (Z : zOK (X, (cc, nL, own, tb), G)) (hd : decode cc pc = .ok (.if_icmp .eq off, 3)) (ht : (pc : Int) + off = (tgt : Int)) (kt : x = y → zGo (X, (cc, nL, own, tb), G) n k (tgt, lv, st, M)) (kf : ¬ (x = y) → zGo (X, (cc, nL, own, tb), G) n k (pc + 3, lv, st, M)) : zGo (X, (cc, nL, own, tb), G) n k (pc, lv, .inl y :: .inl x :: st, M) := by
  obtain ⟨p, l, e, R, s, m, args, below, meth, c, Q⟩ := X
  obtain ⟨hx, hc, -⟩ := Z
  exact fun H locs ls hP hS hl => lv_icmp_eq hx hc hd ht (fun h => kt h H locs ls hP hS hl) (fun h => kf h H locs ls hP hS hl)
theorem zif_ne (Z : zOK (X, (cc, nL, own, tb), G)) (hd : decode cc pc = .ok (.ifCond .ne off, 3)) (ht : (pc : Int) + off = (tgt : Int)) (kt : ¬ x = 0 → zGo (X, (cc, nL, own, tb), G) n k (tgt, lv, st, M)) (kf : x = 0 → zGo (X, (cc, nL, own, tb), G) n k (pc + 3, lv, st, M)) : zGo (X, (cc, nL, own, tb), G) n k (pc, lv, .inl x :: st, M) := by
  obtain ⟨p, l, e, R, s, m, args, below, meth, c, Q⟩ := X
  obtain ⟨hx, hc, -⟩ := Z
  exact fun H locs ls hP hS hl => lv_if_ne hx hc hd ht (fun h => kt h H locs ls hP hS hl) (fun h => kf h H locs ls hP hS hl)
theorem zic_ne (Z : zOK (X, (cc, nL, own, tb), G)) (hd : decode cc pc = .ok (.if_icmp .ne off, 3)) (ht : (pc : Int) + off = (tgt : Int)) (kt : ¬ x = y → zGo (X, (cc, nL, own, tb), G) n k (tgt, lv, st, M)) (kf : x = y → zGo (X, (cc, nL, own, tb), G) n k (pc + 3, lv, st, M)) : zGo (X, (cc, nL, own, tb), G) n k (pc, lv, .inl y :: .inl x :: st, M) := by
  obtain ⟨p, l, e, R, s, m, args, below, meth, c, Q⟩ := X
  obtain ⟨hx, hc, -⟩ := Z
  exact fun H locs ls hP hS hl => lv_icmp_ne hx hc hd ht (fun h => kt h H locs ls hP hS hl) (fun h => kf h H locs ls hP hS hl)
theorem zif_lt (Z : zOK (X, (cc, nL, own, tb), G)) (hd : decode cc pc = .ok (.ifCond .lt off, 3)) (ht : (pc : Int) + off = (tgt : Int)) (kt : x < 0 → zGo (X, (cc, nL, own, tb), G) n k (tgt, lv, st, M)) (kf : ¬ (x < 0) → zGo (X, (cc, nL, own, tb), G) n k (pc + 3, lv, st, M)) : zGo (X, (cc, nL, own, tb), G) n k (pc, lv, .inl x :: st, M) := by
  obtain ⟨p, l, e, R, s, m, args, below, meth, c, Q⟩ := X
  obtain ⟨hx, hc, -⟩ := Z
  exact fun H locs ls hP hS hl => lv_if_lt hx hc hd ht (fun h => kt h H locs ls hP hS hl) (fun h => kf h H locs ls hP hS hl)
theorem zic_lt (Z : zOK (X, (cc, nL, own, tb), G)) (hd : decode cc pc = .ok (.if_icmp .lt off, 3)) (ht : (pc : Int) + off = (tgt : Int)) (kt : x < y → zGo (X, (cc, nL, own, tb), G) n k (tgt, lv, st, M)) (kf : ¬ (x < y) → zGo (X, (cc, nL, own, tb), G) n k (pc + 3, lv, st, M)) : zGo (X, (cc, nL, own, tb), G) n k (pc, lv, .inl y :: .inl x :: st, M) := by
  obtain ⟨p, l, e, R, s, m, args, below, meth, c, Q⟩ := X
  obtain ⟨hx, hc, -⟩ := Z
  exact fun H locs ls hP hS hl => lv_icmp_lt hx hc hd ht (fun h => kt h H locs ls hP hS hl) (fun h => kf h H locs ls hP hS hl)
theorem zif_ge (Z : zOK (X, (cc, nL, own, tb), G)) (hd : decode cc pc = .ok (.ifCond .ge off, 3)) (ht : (pc : Int) + off = (tgt : Int)) (kt : 0 ≤ x → zGo (X, (cc, nL, own, tb), G) n k (tgt, lv, st, M)) (kf : ¬ (0 ≤ x) → zGo (X, (cc, nL, own, tb), G) n k (pc + 3, lv, st, M)) : zGo (X, (cc, nL, own, tb), G) n k (pc, lv, .inl x :: st, M) := by
  obtain ⟨p, l, e, R, s, m, args, below, meth, c, Q⟩ := X
  obtain ⟨hx, hc, -⟩ := Z
  exact fun H locs ls hP hS hl => lv_if_ge hx hc hd ht (fun h => kt h H locs ls hP hS hl) (fun h => kf h H locs ls hP hS hl)
theorem zic_ge (Z : zOK (X, (cc, nL, own, tb), G)) (hd : decode cc pc = .ok (.if_icmp .ge off, 3)) (ht : (pc : Int) + off = (tgt : Int)) (kt : y ≤ x → zGo (X, (cc, nL, own, tb), G) n k (tgt, lv, st, M)) (kf : ¬ (y ≤ x) → zGo (X, (cc, nL, own, tb), G) n k (pc + 3, lv, st, M)) : zGo (X, (cc, nL, own, tb), G) n k (pc, lv, .inl y :: .inl x :: st, M) := by
  obtain ⟨p, l, e, R, s, m, args, below, meth, c, Q⟩ := X
  obtain ⟨hx, hc, -⟩ := Z
  exact fun H locs ls hP hS hl => lv_icmp_ge hx hc hd ht (fun h => kt h H locs ls hP hS hl) (fun h => kf h H locs ls hP hS hl)
theorem zif_gt (Z : zOK (X, (cc, nL, own, tb), G)) (hd : decode cc pc = .ok (.ifCond .gt off, 3)) (ht : (pc : Int) + off = (tgt : Int)) (kt : 0 < x → zGo (X, (cc, nL, own, tb), G) n k (tgt, lv, st, M)) (kf : ¬ (0 < x) → zGo (X, (cc, nL, own, tb), G) n k (pc + 3, lv, st, M)) : zGo (X, (cc, nL, own, tb), G) n k (pc, lv, .inl x :: st, M) := by
  obtain ⟨p, l, e, R, s, m, args, below, meth, c, Q⟩ := X
  obtain ⟨hx, hc, -⟩ := Z
  exact fun H locs ls hP hS hl => lv_if_gt hx hc hd ht (fun h => kt h H locs ls hP hS hl) (fun h => kf h H locs ls hP hS hl)
theorem zic_gt (Z : zOK (X, (cc, nL, own, tb), G)) (hd : decode cc pc = .ok (.if_icmp .gt off, 3)) (ht : (pc : Int) + off = (tgt : Int)) (kt : y < x → zGo (X, (cc, nL, own, tb), G) n k (tgt, lv, st, M)) (kf : ¬ (y < x) → zGo (X, (cc, nL, own, tb), G) n k (pc + 3, lv, st, M)) : zGo (X, (cc, nL, own, tb), G) n k (pc, lv, .inl y :: .inl x :: st, M) := by
  obtain ⟨p, l, e, R, s, m, args, below, meth, c, Q⟩ := X
  obtain ⟨hx, hc, -⟩ := Z
  exact fun H locs ls hP hS hl => lv_icmp_gt hx hc hd ht (fun h => kt h H locs ls hP hS hl) (fun h => kf h H locs ls hP hS hl)
theorem zif_le (Z : zOK (X, (cc, nL, own, tb), G)) (hd : decode cc pc = .ok (.ifCond .le off, 3)) (ht : (pc : Int) + off = (tgt : Int)) (kt : x ≤ 0 → zGo (X, (cc, nL, own, tb), G) n k (tgt, lv, st, M)) (kf : ¬ (x ≤ 0) → zGo (X, (cc, nL, own, tb), G) n k (pc + 3, lv, st, M)) : zGo (X, (cc, nL, own, tb), G) n k (pc, lv, .inl x :: st, M) := by
  obtain ⟨p, l, e, R, s, m, args, below, meth, c, Q⟩ := X
  obtain ⟨hx, hc, -⟩ := Z
  exact fun H locs ls hP hS hl => lv_if_le hx hc hd ht (fun h => kt h H locs ls hP hS hl) (fun h => kf h H locs ls hP hS hl)
theorem zic_le (Z : zOK (X, (cc, nL, own, tb), G)) (hd : decode cc pc = .ok (.if_icmp .le off, 3)) (ht : (pc : Int) + off = (tgt : Int)) (kt : x ≤ y → zGo (X, (cc, nL, own, tb), G) n k (tgt, lv, st, M)) (kf : ¬ (x ≤ y) → zGo (X, (cc, nL, own, tb), G) n k (pc + 3, lv, st, M)) : zGo (X, (cc, nL, own, tb), G) n k (pc, lv, .inl y :: .inl x :: st, M) := by
  obtain ⟨p, l, e, R, s, m, args, below, meth, c, Q⟩ := X
  obtain ⟨hx, hc, -⟩ := Z
  exact fun H locs ls hP hS hl => lv_icmp_le hx hc hd ht (fun h => kt h H locs ls hP hS hl) (fun h => kf h H locs ls hP hS hl)

theorem zsw_in (Z : zOK (X, (cc, nL, own, tb), G)) {dflt lo hi : Int} {offs : Array Int} {len : Nat} {v : Int32} {off : Int} (hx : x = v) (hd : decode cc pc = .ok (.tableswitch dflt lo hi offs, len)) (h1 : decide (v.toInt < lo) = false ∧ decide (hi < v.toInt) = false ∧ offs[(v.toInt - lo).toNat]? = some off) (ht : (pc : Int) + off = (tgt : Int)) (K : zGo (X, (cc, nL, own, tb), G) n k (tgt, lv, st, M)) : zGo (X, (cc, nL, own, tb), G) n k (pc, lv, .inl x :: st, M) := by
  obtain ⟨p, l, e, R, s, m, args, below, meth, c, Q⟩ := X
  obtain ⟨hx', hc, -⟩ := Z
  subst hx
  exact fun H locs ls hP hS hl => lv_tableIn hx' hc hd (of_decide_eq_false h1.1) (of_decide_eq_false h1.2.1) h1.2.2 ht (K H locs ls hP hS hl)
theorem zsw_out (Z : zOK (X, (cc, nL, own, tb), G)) {dflt lo hi : Int} {offs : Array Int} {len : Nat} (hd : decode cc pc = .ok (.tableswitch dflt lo hi offs, len)) (h1 : x.toInt < lo ∨ hi < x.toInt) (ht : (pc : Int) + dflt = (tgt : Int)) (K : zGo (X, (cc, nL, own, tb), G) n k (tgt, lv, st, M)) : zGo (X, (cc, nL, own, tb), G) n k (pc, lv, .inl x :: st, M) := by
  obtain ⟨p, l, e, R, s, m, args, below, meth, c, Q⟩ := X
  obtain ⟨hx', hc, -⟩ := Z
  exact fun H locs ls hP hS hl => lv_tableOut hx' hc hd h1 ht (K H locs ls hP hS hl)
end ZBR
/-- a method's contract: from these arguments and this memory it answers r, the memory is M' -/
def zPre (G : zG) (M : zM) (u : State) : Prop := va_K (zgD G) vwCl (ztys (zgca G)) u ∧ va_P (zgD G) vwCl (zws G M) u.heap ∧ zE G u
def zPost (G : zG) (r : Option zV) (M' : zM) : Array Value → State → Outcome → State → Prop := fun _ st oc t => oc = .returned (r.map (zval (zgad G))) ∧ va_P (zgD G) vwCl (zws G M') t.heap ∧ va_F (zgA G) st t
def zMet (l : Launch) (G : zG) (y : MethodName) (bytes : ByteArray) (maxL : Nat) (ret : Option FieldType) (fr lo : Nat) (as : List zV) (M : zM) (r : Option zV) (M' : zM) : Prop := Met l y (.code y bytes maxL ret :: zt) { frames := fr, cells := 0, slots := 0, locals := lo } (va_Pc (as.map (zval (zgad G))) (zPre G M)) (zPost G r M') 0 0 (zgA G)
def z1w (v : zV) : Nat := match z2 v with
  | true => 2
  | false => 1
theorem z1w_cat (ad : zR → Nat) (v : zV) : (zval ad v).category = z1w v := by
  rcases v with x | x | r
  · rfl
  · rfl
  · cases r <;> rfl
def zargs : Nat → List zV → zLv
  | _, [] => []
  | i, v :: l => (i, v) :: zargs (i + z1w v) l
def zwid : List zV → Nat
  | [] => 0
  | v :: l => z1w v + zwid l
theorem zargs_lv (ad : zR → Nat) : ∀ (as : List zV) (i : Nat), lv_args i (as.map (zval ad)) = (zargs i as).map (fun q => (q.1, zval ad q.2))
  | [], _ => rfl
  | v :: l, i => by
    have e : (if (zval ad v).category = 2 then i + 2 else i + 1) = i + z1w v := by
      rw [z1w_cat]
      unfold z1w
      cases z2 v <;> rfl
    show (i, zval ad v) :: lv_args (if (zval ad v).category = 2 then i + 2 else i + 1) (l.map (zval ad)) = (i, zval ad v) :: (zargs _ l).map _
    rw [e, zargs_lv ad l]
theorem zwid_lg (ad : zR → Nat) : ∀ as : List zV, (lg_sl (as.map (zval ad))).length = zwid as
  | [] => rfl
  | v :: l => by
    have ih := zwid_lg ad l
    have e : lg_sl (zval ad v :: l.map (zval ad)) = (if (zval ad v).category = 2 then [.val (zval ad v), .second] else [.val (zval ad v)]) ++ lg_sl (l.map (zval ad)) := by simp [lg_sl]
    show (lg_sl (zval ad v :: l.map (zval ad))).length = z1w v + zwid l
    rw [e, List.length_append, ih, z1w_cat]
    unfold z1w
    cases z2 v <;> rfl
/-- what a walk has: the room, the type of the answer, the end -/
def zAt : zX → zG → Nat → Nat → Option FieldType → Prop := fun ⟨_, _, _, R, _, _, _, _, meth, _, _⟩ _ fr lo ret => R = { frames := fr, cells := 0, slots := 0, locals := lo } ∧ meth.sig.returnType = ret
def zEnd : zX → zG → Option zV → zM → Prop := fun ⟨_, _, _, _, s, _, args, below, _, _, Q⟩ G r M' => Q = MQ below (zPost G r M') args s 0 0 (zgA G)
abbrev zXl (X : zX) : Launch := X.2.1
theorem zMet_of {l : Launch} {G : zG} {y : MethodName} {cc : ByteArray} {nL : Nat} {ret : Option FieldType} {fr lo : Nat} {as : List zV} {M M' : zM} {r : Option zV} {own : String} {tb : zT} (hG : zGok G) (htb : zTok own tb) (how : y.cls = own) (hy : plainName y.cls = true) (hw : zwid as ≤ nL)
    (body : ∀ X : zX, zXl X = l → zOK (X, (cc, nL, own, tb), G) → zAt X G fr lo ret → zEnd X G r M' → zGo (X, (cc, nL, own, tb), G) 0 0 (0, zargs 0 as, [], M)) : zMet l G y cc nL ret fr lo as M r M' := by
  refine Met.ofW (cc := cc) (maxL := nL) (ret := ret) hy rfl ?_
  intro p e s m args below meth c s₁ B hml hv
  obtain ⟨rfl, hK, hP, hE⟩ := hv
  have hts0 := atoms_spec (ws := .code y cc nL ret :: zt) B.pre
  have hts : ∀ w ∈ zt, w.before ((as.map (zval (zgad G))).toArray) s = true := fun w hw => hts0 w (List.mem_cons_of_mem _ hw)
  have hown : s.vm.findClass own = some m.cls := how ▸ findClass_of_methodNamed B.named
  rw [lg_entry_eq]
  refine body (p, l, e, _, s, m, _, below, meth, c, _) rfl ⟨B.exec, B.bytes, hml, hown, hts, hK, hG, htb, hE, B.notSynchronized⟩ ⟨rfl, B.returns⟩ rfl s.heap [] _ hP va_S.rf ?_
  have hl := lv_entry (as.map (zval (zgad G))) (n := nL) (by rw [zwid_lg]; exact hw)
  rw [zargs_lv] at hl
  exact hl
section ZRET
variable {X : zX} {cc : ByteArray} {nL : Nat} {own : String} {tb : zT} {G : zG} {pc fr lo : Nat} {lv : zLv} {M : zM} {ret : Option FieldType}
theorem zret_i (Z : zOK (X, (cc, nL, own, tb), G)) (hA : zAt X G fr lo (some .int)) {x : Int32} (hE : zEnd X G (some (.inl x)) M) (hd : decode cc pc = .ok (.ireturn, 1)) : zGo (X, (cc, nL, own, tb), G) 0 0 (pc, lv, [.inl x], M) := by
  obtain ⟨p, l, e, R, s, m, args, below, meth, c, Q⟩ := X
  obtain ⟨hx, hc, -, -, -, -, -, -, -, hlocks⟩ := Z
  obtain ⟨-, hr⟩ := hA
  cases hE
  exact fun H locs ls hP hS hl => W.iret hx hc hr (fun t ht _ => ⟨rfl, ht ▸ hP, hS.F ht⟩) hS.2.2 hd hlocks
theorem zret_z (Z : zOK (X, (cc, nL, own, tb), G)) (hA : zAt X G fr lo (some .boolean)) {x : Int32} (hx0 : zbl x = true) (hE : zEnd X G (some (.inl x)) M) (hd : decode cc pc = .ok (.ireturn, 1)) : zGo (X, (cc, nL, own, tb), G) 0 0 (pc, lv, [.inl x], M) := by
  obtain ⟨p, l, e, R, s, m, args, below, meth, c, Q⟩ := X
  obtain ⟨hx, hc, -, -, -, -, -, -, -, hlocks⟩ := Z
  obtain ⟨-, hr⟩ := hA
  cases hE
  exact fun H locs ls hP hS hl => W.zret hx hc hr (zbl_nar hx0) (fun t ht _ => ⟨rfl, ht ▸ hP, hS.F ht⟩) hS.2.2 hd hlocks
theorem zret_l (Z : zOK (X, (cc, nL, own, tb), G)) (hA : zAt X G fr lo (some .long)) {x : Int64} (hE : zEnd X G (some (.inr (.inl x))) M) (hd : decode cc pc = .ok (.lreturn, 1)) : zGo (X, (cc, nL, own, tb), G) 0 0 (pc, lv, [.inr (.inl x)], M) := by
  obtain ⟨p, l, e, R, s, m, args, below, meth, c, Q⟩ := X
  obtain ⟨hx, hc, -, -, -, -, -, -, -, hlocks⟩ := Z
  obtain ⟨-, hr⟩ := hA
  cases hE
  exact fun H locs ls hP hS hl => W.lret hx hc hr (fun t ht _ => ⟨rfl, ht ▸ hP, hS.F ht⟩) hS.2.2 hd hlocks
theorem zret_v (Z : zOK (X, (cc, nL, own, tb), G)) (hA : zAt X G fr lo none) (hE : zEnd X G none M) (hd : decode cc pc = .ok (.return_, 1)) : zGo (X, (cc, nL, own, tb), G) 0 0 (pc, lv, [], M) := by
  obtain ⟨p, l, e, R, s, m, args, below, meth, c, Q⟩ := X
  obtain ⟨hx, hc, -, -, -, -, -, -, -, hlocks⟩ := Z
  obtain ⟨-, hr⟩ := hA
  cases hE
  exact fun H locs ls hP hS hl => W.vret hx hc hr (fun t ht _ => ⟨rfl, ht ▸ hP, hS.F ht⟩) hS.2.2 hd hlocks
theorem zret_a (Z : zOK (X, (cc, nL, own, tb), G)) {C0 : String} (hA : zAt X G fr lo (some (.object C0))) {q : zR} (hE : zEnd X G (some (.inr (.inr (some q)))) M) (hd : decode cc pc = .ok (.areturn, 1)) : zGo (X, (cc, nL, own, tb), G) 0 0 (pc, lv, [.inr (.inr (some q))], M) := by
  obtain ⟨p, l, e, R, s, m, args, below, meth, c, Q⟩ := X
  obtain ⟨hx, hc, -, -, -, -, -, -, -, hlocks⟩ := Z
  obtain ⟨-, hr⟩ := hA
  cases hE
  exact fun H locs ls hP hS hl => W.aret hx hc hr (Or.inl ⟨_, rfl⟩) (Or.inr ⟨zgad G q, rfl⟩) (fun t ht _ => ⟨rfl, ht ▸ hP, hS.F ht⟩) hS.2.2 hd hlocks
end ZRET
theorem zE_moved {G : zG} {s U : State} {H : Heap} {locs : List Loc} (hE : zE G s) (hW : s.WarmedH U.vm) (hU : U.heap = H) (hS : va_S (zgA G) s.heap H locs) : zE G U := by
  have hvm := hW.alike
  have hk : ∀ a : Nat, a < s.heap.size → ¬ zgA G a → U.heap[a]? = s.heap[a]? := fun a ha hA => by rw [hU]; exact hS.2.1 a ha hA
  obtain ⟨hE, h1, h2, h3, h4⟩ := hE
  refine ⟨fun n hn => ?_, vk_S.moved hvm (h1.kept hk), fun n hn => (h2 n hn).warm hW, va_Z.moved hvm (h3.kept hk), ?_⟩
  · obtain ⟨h1, h2⟩ := hE n hn
    exact ⟨va_Z.moved hvm (h1.kept hk), va_T.moved hvm (h2.kept hk)⟩
  · rcases h4 with h4 | h4
    · exact Or.inl (va_Z.moved hvm (h4.kept hk))
    · exact Or.inr (va_Z.moved hvm (h4.kept hk))
theorem zPre_blind (G : zG) (M : zM) (av : List Value) : FrameBlind (va_Pc av (zPre G M)) := by
  intro a U g mk h
  obtain ⟨h0, hK, hP, hE, h1, h2, h3, h4⟩ := h
  have hvm : U.vm.Alike (U.calling g mk a).vm := Vm.Alike.refl U.vm
  refine ⟨h0, va_K.moved (u := U) (U := U.calling g mk a) hvm hK, hP, fun n hn => ⟨va_Z.moved (u := U) hvm (hE n hn).1, va_T.moved (u := U) hvm (hE n hn).2⟩, vk_S.moved (u := U) hvm h1, fun n hn => vk_R.same (u := U) rfl (h2 n hn), va_Z.moved (u := U) hvm h3, ?_⟩
  rcases h4 with h4 | h4
  · exact Or.inl (va_Z.moved (u := U) hvm h4)
  · exact Or.inr (va_Z.moved (u := U) hvm h4)
def zrv (r : Option zV) (st : List zV) : List zV := match r with
  | some v => v :: st
  | none => st
theorem zcat_sum (ad : zR → Nat) : ∀ st : List zV, ((st.map (zval ad)).map fun v => v.category).sum = zwid st
  | [] => rfl
  | v :: l => by
    rw [List.map_cons, List.map_cons, List.sum_cons, zcat_sum ad l, z1w_cat]
    rfl
section ZCALL
variable {X : zX} {cc : ByteArray} {nL : Nat} {own : String} {tb : zT} {G : zG} {n k pc : Nat} {lv : zLv} {st : List zV} {M M' : zM} {R : Room}
variable {y : MethodName} {bytes : ByteArray} {maxL : Nat} {ret : Option FieldType} {fr lo : Nat} {as : List zV} {r : Option zV} {idx : Nat}
abbrev zXR (X : zX) : Room := X.2.2.2.1
/-- what every call asks of the tables and the room -/
def zcw (own : String) (idx : Nat) (y : MethodName) (bytes : ByteArray) (maxL : Nat) (ret : Option FieldType) (na : Nat) : Prop := Cond.methodLink own idx y ∈ zt ∧ Cond.code y bytes maxL ret ∈ zt ∧ Cond.initialized y.cls ∈ zt ∧ (y.cls ≠ "java/lang/invoke/MethodHandle" ∧ y.cls ≠ "java/lang/invoke/VarHandle") ∧ (parseMethodDescriptor y.desc).map (fun d => d.parameters.length) = some na
theorem zcallB {s : State} {args : Array Value} {na : Nat} (hts : ∀ w ∈ zt, w.before args s = true) (h : zcw own idx y bytes maxL ret na) (hR : fr + 1 ≤ R.frames ∧ 8 + (maxL + 11) + lo ≤ R.locals) : CallB R s args own idx y bytes maxL ret (.code y bytes maxL ret :: zt) { frames := fr, cells := 0, slots := 0, locals := lo } 0 0 na := by
  obtain ⟨h1, h2, h3, h4, h5⟩ := h
  refine ⟨rfl, rfl, hR.1, hR.2, pay_in hts (fun w hw => ?_), List.mem_cons_self, hts _ h2, hts _ h3, h4, fun sig hs => ?_, hts _ h1⟩
  · rcases List.mem_cons.mp hw with rfl | hw
    · exact ⟨h2, good_of_word (zt_in h2).2⟩
    · exact ⟨hw, good_of_word (zt_in hw).2⟩
  · rw [hs] at h5
    exact (Option.some.inj h5).symm
theorem zcallX {p : Program} {l : Launch} {e : Env} {s : State} {m : MethodId} {args : Array Value} {below : List Frame} {meth : Method} {c : Code} {Q : State → Prop} {H : Heap} {locs : List Loc} {ls : Array Slot} {vs rest : List Value} {a : Array Value}
    (hr : va_Run p l e R s m args below meth c H locs n k 0 0 (F0 m pc ls vs) rest (zPost G r M' a) (zgA G)) (hS : va_S (zgA G) s.heap H locs)
    (kk : ∀ (H1 : Heap) (locs1 : List Loc), va_P (zgD G) vwCl (zws G M') H1 → va_S (zgA G) s.heap H1 locs1 → W p l e R s m args below meth c H1 locs1 n k Q (F0 m (pc + 3) ls ((r.map (zval (zgad G))).toList ++ rest))) : W p l e R s m args below meth c H locs n k Q (F0 m pc ls vs) := by
  intro T hT X
  obtain ⟨v, st₀, t, T', L, h0, X', hL, e1, e2, ⟨hv, hP, hF⟩, st⟩ := hr T hT X
  cases hv
  obtain ⟨hz, hk⟩ := hF
  rw [h0] at hz hk
  obtain ⟨t2, a1, b1⟩ := kk T'.heap (locs ++ L) (by rw [e1]; exact hP) ⟨Nat.le_trans hS.1 (by rw [e1]; exact hz), fun q h1 h2 => by rw [e1, hk q (Nat.lt_of_lt_of_le h1 hS.1) h2]; exact hS.2.1 q h1 h2, fun q hq => by
      rcases List.mem_append.mp hq with h | h
      · exact hS.2.2 q h
      · exact hL q h⟩ T' rfl X'
  exact ⟨t2, st t2 a1, b1⟩
theorem zrv_eq (ad : zR → Nat) (r : Option zV) (st : List zV) : (r.map (zval ad)).toList ++ st.map (zval ad) = (zrv r st).map (zval ad) := by
  cases r <;> rfl
theorem zcallS (Z : zOK (X, (cc, nL, own, tb), G)) {na : Nat} (hM : zMet (zXl X) G y bytes maxL ret fr lo as M r M') (hw : zcw own idx y bytes maxL ret na) (hst : Cond.static y ∈ zt) (hn : as.length = na) (hR : fr + 1 ≤ (zXR X).frames ∧ 8 + (maxL + 11) + lo ≤ (zXR X).locals) (hroom : Nat.ble (zwid st) 8 = true) (hd : decode cc pc = .ok (.invokestatic idx, 3)) (hnk : n ≤ (zXR X).cells ∧ k ≤ (zXR X).slots)
    (K : zGo (X, (cc, nL, own, tb), G) n k (pc + 3, lv, zrv r st, M')) : zGo (X, (cc, nL, own, tb), G) n k (pc, lv, as.reverse ++ st, M) := by
  obtain ⟨p, l, e, R, s, m, args, below, meth, c, Q⟩ := X
  obtain ⟨hx, hc, hml, hown, hts, hK, hG, htb, hE, hlocks⟩ := Z
  intro H locs ls hP hS hl
  refine zcallX (a := (as.map (zval (zgad G))).toArray) (rest := st.map (zval (zgad G))) (va_runS (As := as.map (zval (zgad G))) ⟨hx, hc, hml, hown, hts⟩ hM ⟨zcallB hts hw hR, hts _ hst⟩ ⟨zPre_blind G M _, fun U hU hW => ⟨rfl, va_K.moved hW.alike hK, by rw [hU]; exact hP, zE_moved hE hW hU hS⟩⟩ rfl (by rw [List.length_map]; exact hn) hl.1 (by simp) (lv_room (by rw [zcat_sum]; exact Nat.le_of_ble_eq_true hroom)) hd hnk) hS (fun H1 locs1 hP1 hS1 => ?_)
  rw [zrv_eq]
  exact K H1 locs1 ls hP1 hS1 hl
theorem zcallV (Z : zOK (X, (cc, nL, own, tb), G)) {na kk i0 : Nat} (hM : zMet (zXl X) G y bytes maxL ret fr lo (.inr (.inr (some (kk, i0))) :: as) M r M') (hw : zcw own idx y bytes maxL ret na) (hin : Cond.instanceMethod y ∈ zt) (hse : Cond.selects (zRt kk) y y ∈ zt) (hk : kk < 13) (hlv : Nat.blt i0 (zgcn G kk) = true) (hn : as.length = na) (hR : fr + 1 ≤ (zXR X).frames ∧ 8 + (maxL + 11) + lo ≤ (zXR X).locals) (hroom : Nat.ble (zwid st) 8 = true) (hd : decode cc pc = .ok (.invokevirtual idx, 3)) (hnk : n ≤ (zXR X).cells ∧ k ≤ (zXR X).slots)
    (K : zGo (X, (cc, nL, own, tb), G) n k (pc + 3, lv, zrv r st, M')) : zGo (X, (cc, nL, own, tb), G) n k (pc, lv, as.reverse ++ .inr (.inr (some (kk, i0))) :: st, M) := by
  obtain ⟨p, l, e, R, s, m, args, below, meth, c, Q⟩ := X
  obtain ⟨hx, hc, hml, hown, hts, hK, hG, htb, hE, hlocks⟩ := Z
  obtain ⟨q0, hq⟩ := zlive hG hlv
  intro H locs ls hP hS hl
  refine zcallX (a := (Value.ref (zgad G (kk, i0)) :: as.map (zval (zgad G))).toArray) (rest := st.map (zval (zgad G))) (va_runV (C := zRt kk) (b := zgad G (kk, i0)) (As := as.map (zval (zgad G))) ⟨hx, hc, hml, hown, hts⟩ hM ⟨zcallB hts hw hR, hts _ hin, hts _ hse⟩ ⟨zPre_blind G M _, va_recv hK hP (zcl_at kk hk) ((zws_at hq).trans (by rw [zcell_obj hk])), fun U hU hW => ⟨rfl, va_K.moved hW.alike hK, by rw [hU]; exact hP, zE_moved hE hW hU hS⟩⟩ rfl (by rw [List.length_map]; exact hn) hl.1 (by simp; rfl) (lv_room (by rw [zcat_sum]; exact Nat.le_of_ble_eq_true hroom)) hd hnk) hS (fun H1 locs1 hP1 hS1 => ?_)
  rw [zrv_eq]
  exact K H1 locs1 ls hP1 hS1 hl
end ZCALL
