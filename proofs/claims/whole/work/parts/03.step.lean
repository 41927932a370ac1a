/-! one instruction -/
def zin (i : Int32) (n : Nat) : Bool := match decide (i < 0) with
  | true => false
  | false => Nat.blt i.toNatClampNeg n
theorem zin_in {i : Int32} {n : Nat} (h : zin i n = true) : vp_in i n := by
  unfold zin at h
  by_cases hi : i < 0
  · rw [decide_eq_true hi] at h; cases h
  · rw [decide_eq_false hi] at h
    have h2 : i.toNatClampNeg < n := by simpa [Nat.blt_eq] using h
    rintro (q | q)
    · exact hi q
    · omega
def zbl (x : Int32) : Bool := decide (x = 0) || decide (x = 1)
def znz (x : Int32) : Bool := !(decide (x = 0))
def zrem (x y : Int32) : Int32 := x - x / y * y
def zshl (x y : Int32) : Int32 := x <<< (y &&& 31)
def zshr (x y : Int32) : Int32 := x >>> (y &&& 31)
def zushr (x y : Int32) : Int32 := (x.toUInt32 >>> (y.toUInt32 &&& Int32.toUInt32 31)).toInt32
def zshlL (x : Int64) (y : Int32) : Int64 := x <<< (y.toInt64 &&& 63)
def zshrL (x : Int64) (y : Int32) : Int64 := x >>> (y.toInt64 &&& 63)
/-- memory with one int, one long written -/
def zuI (f : Nat → Nat → Nat → Int32) (k i s : Nat) (v : Int32) : Nat → Nat → Nat → Int32 := fun k' i' s' => if k' = k ∧ i' = i ∧ s' = s then v else f k' i' s'
def zuL (f : Nat → Nat → Nat → Int64) (k i s : Nat) (v : Int64) : Nat → Nat → Nat → Int64 := fun k' i' s' => if k' = k ∧ i' = i ∧ s' = s then v else f k' i' s'
abbrev zO : Type := Option (Bool × zS)
def zI0 (n : Nat) (v : zV) (S : zS) : zO := some (true, S.1 + n, S.2.1, v :: S.2.2.1, S.2.2.2)
def zI1 (f : Int32 → zV) (n : Nat) (S : zS) : zO := match S.2.2.1 with
  | .inl x :: st => some (true, S.1 + n, S.2.1, f x :: st, S.2.2.2)
  | _ => none
def zL1 (f : Int64 → zV) (n : Nat) (S : zS) : zO := match S.2.2.1 with
  | .inr (.inl x) :: st => some (true, S.1 + n, S.2.1, f x :: st, S.2.2.2)
  | _ => none
def zI2 (g : Int32 → Int32 → Bool) (f : Int32 → Int32 → Int32) (n : Nat) (S : zS) : zO := match S.2.2.1 with
  | .inl y :: .inl x :: st => some (g x y, S.1 + n, S.2.1, .inl (f x y) :: st, S.2.2.2)
  | _ => none
def zL2 (f : Int64 → Int64 → zV) (n : Nat) (S : zS) : zO := match S.2.2.1 with
  | .inr (.inl y) :: .inr (.inl x) :: st => some (true, S.1 + n, S.2.1, f x y :: st, S.2.2.2)
  | _ => none
def zLI (f : Int64 → Int32 → Int64) (n : Nat) (S : zS) : zO := match S.2.2.1 with
  | .inl y :: .inr (.inl x) :: st => some (true, S.1 + n, S.2.1, .inr (.inl (f x y)) :: st, S.2.2.2)
  | _ => none
def zld (t : zV → Bool) (i n : Nat) (S : zS) : zO := match zget i S.2.1 with
  | some v => match t v with
    | true => some (true, S.1 + n, S.2.1, v :: S.2.2.1, S.2.2.2)
    | false => none
  | none => none
def ztI (v : zV) : Bool := match v with
  | .inl _ => true
  | _ => false
def ztA (v : zV) : Bool := match v with
  | .inr (.inr (some _)) => true
  | _ => false
def zso (t : zV → Bool) (i n : Nat) (S : zS) : zO := match S.2.2.1 with
  | v :: st => match t v with
    | true => some (true, S.1 + n, zput1 i v S.2.1, st, S.2.2.2)
    | false => none
  | _ => none
def zsoL (i n : Nat) (S : zS) : zO := match S.2.2.1 with
  | .inr (.inl x) :: st => some (true, S.1 + n, zput2 i (.inr (.inl x)) S.2.1, st, S.2.2.2)
  | _ => none
def zinc (i : Nat) (v : Int) (n : Nat) (S : zS) : zO := match zget i S.2.1 with
  | some (.inl x) => some (true, S.1 + n, zput1 i (.inl (x + Int32.ofInt v)) S.2.1, S.2.2.1, S.2.2.2)
  | _ => none
def zdup (n : Nat) (S : zS) : zO := match S.2.2.1 with
  | v :: st => match z2 v with
    | false => some (true, S.1 + n, S.2.1, v :: v :: st, S.2.2.2)
    | true => none
  | _ => none
def zdup2 (n : Nat) (S : zS) : zO := match S.2.2.1 with
  | v :: w :: st => match z2 v with
    | false => match z2 w with
      | false => some (true, S.1 + n, S.2.1, v :: w :: v :: w :: st, S.2.2.2)
      | true => none
    | true => none
  | _ => none
def zpop (n : Nat) (S : zS) : zO := match S.2.2.1 with
  | v :: st => match z2 v with
    | false => some (true, S.1 + n, S.2.1, st, S.2.2.2)
    | true => none
  | _ => none
def zgf (cn : Nat → Nat) (f : zM → Nat → zV) (k n : Nat) (S : zS) : zO := match S.2.2.1 with
  | .inr (.inr (some (k', i))) :: st => match Nat.beq k' k with
    | true => some (Nat.blt i (cn k), S.1 + n, S.2.1, f S.2.2.2 i :: st, S.2.2.2)
    | false => none
  | _ => none
def zpf (cn : Nat → Nat) (g : Int32 → Bool) (k s n : Nat) (S : zS) : zO := match S.2.2.1 with
  | .inl x :: .inr (.inr (some (k', i))) :: st => match Nat.beq k' k with
    | true => some (Nat.blt i (cn k) && g x, S.1 + n, S.2.1, st, (zuI S.2.2.2.1 k i s x, S.2.2.2.2))
    | false => none
  | _ => none
def zpfL (cn : Nat → Nat) (k s n : Nat) (S : zS) : zO := match S.2.2.1 with
  | .inr (.inl x) :: .inr (.inr (some (k', i))) :: st => match Nat.beq k' k with
    | true => some (Nat.blt i (cn k), S.1 + n, S.2.1, st, (S.2.2.2.1, zuL S.2.2.2.2.1 k i s x, S.2.2.2.2.2))
    | false => none
  | _ => none
/-- an element read: tag t -/
def zal (cn : Nat → Nat) (t : Nat) (f : zM → Nat → Nat → Nat → zV) (n : Nat) (S : zS) : zO := match S.2.2.1 with
  | .inl j :: .inr (.inr (some (k, i))) :: st => match Nat.blt k 2000 with
    | true => match Nat.beq (zak k).1 t with
      | true => some (Nat.blt i (cn k) && zin j (zak k).2, S.1 + n, S.2.1, f S.2.2.2 k i j.toNatClampNeg :: st, S.2.2.2)
      | false => none
    | false => match Nat.beq t 0 with
      | true => match Nat.beq i 0 with
        | true => some (Nat.blt (k - 2000) 3 && zin j (zsl (k - 2000)), S.1 + n, S.2.1, .inl (zsv (k - 2000) j.toNatClampNeg) :: st, S.2.2.2)
        | false => none
      | false => none
  | _ => none
def zas (cn : Nat → Nat) (t : Nat) (g : Int32 → Int32) (n : Nat) (S : zS) : zO := match S.2.2.1 with
  | .inl x :: .inl j :: .inr (.inr (some (k, i))) :: st => match Nat.blt k 2000 with
    | true => match Nat.beq (zak k).1 t with
      | true => some (Nat.blt i (cn k) && zin j (zak k).2, S.1 + n, S.2.1, st, (zuI S.2.2.2.1 k i j.toNatClampNeg (g x), S.2.2.2.2))
      | false => none
    | false => none
  | _ => none
def zlen (cn : Nat → Nat) (n : Nat) (S : zS) : zO := match S.2.2.1 with
  | .inr (.inr (some (k, i))) :: st => match Nat.blt k 2000 with
    | true => match Nat.blt k 13 with
      | false => match Nat.blt (zak k).1 4 with
        | true => some (Nat.blt i (cn k), S.1 + n, S.2.1, .inl (Int32.ofNat (zak k).2) :: st, S.2.2.2)
        | false => none
      | true => none
    | false => none
  | _ => none
def zstep (cn : Nat → Nat) (x : Instr) (n : Nat) (S : zS) : zO := match x with
  | .iconst v => zI0 n (.inl (Int32.ofInt v)) S
  | .goto_w v => zI0 n (.inr (.inl (Int64.ofInt v))) S
  | .iload i => zld ztI i n S
  | .lload i => zld z2 i n S
  | .aload i => zld ztA i n S
  | .istore i => zso ztI i n S
  | .astore i => zso ztA i n S
  | .lstore i => zsoL i n S
  | .iinc i v => zinc i v n S
  | .iadd => zI2 (fun _ _ => true) (fun x y => x + y) n S
  | .isub => zI2 (fun _ _ => true) (fun x y => x - y) n S
  | .imul => zI2 (fun _ _ => true) (fun x y => x * y) n S
  | .iand => zI2 (fun _ _ => true) (fun x y => x &&& y) n S
  | .ior => zI2 (fun _ _ => true) (fun x y => x ||| y) n S
  | .ixor => zI2 (fun _ _ => true) (fun x y => x ^^^ y) n S
  | .ishl => zI2 (fun _ _ => true) zshl n S
  | .ishr => zI2 (fun _ _ => true) zshr n S
  | .iushr => zI2 (fun _ _ => true) zushr n S
  | .idiv => zI2 (fun _ y => znz y) (fun x y => x / y) n S
  | .irem => zI2 (fun _ y => znz y) zrem n S
  | .ineg => zI1 (fun x => .inl (-x)) n S
  | .i2l => zI1 (fun x => .inr (.inl x.toInt64)) n S
  | .l2i => zL1 (fun x => .inl x.toInt32) n S
  | .ladd => zL2 (fun x y => .inr (.inl (x + y))) n S
  | .lsub => zL2 (fun x y => .inr (.inl (x - y))) n S
  | .lmul => zL2 (fun x y => .inr (.inl (x * y))) n S
  | .land => zL2 (fun x y => .inr (.inl (x &&& y))) n S
  | .lor => zL2 (fun x y => .inr (.inl (x ||| y))) n S
  | .lcmp => zL2 (fun x y => .inl (lg_cmp x y)) n S
  | .lshl => zLI zshlL n S
  | .lshr => zLI zshrL n S
  | .dup => zdup n S
  | .dup2 => zdup2 n S
  | .pop => zpop n S
  | .multianewarray k s => zgf cn (fun M i => .inl (M.1 k i s)) k n S
  | .getfield q => zgf cn (fun M i => .inr (.inr (M.2.2 (q / 100) i (q % 100)))) (q / 100) n S
  | .anewarray q => zgf cn (fun M i => .inr (.inl (M.2.1 (q / 100) i (q % 100)))) (q / 100) n S
  | .invokeinterface k s => zpf cn (fun _ => true) k s n S
  | .invokedynamic q => zpf cn zbl (q / 100) (q % 100) n S
  | .checkcast q => zpfL cn (q / 100) (q % 100) n S
  | .iaload => zal cn 0 (fun M k i j => .inl (M.1 k i j)) n S
  | .baload => zal cn 1 (fun M k i j => .inl (M.1 k i j)) n S
  | .aaload => match S.2.2.1 with
    | .inl j :: .inr (.inr (some (k, i))) :: st => match Nat.blt k 2000 with
      | true => match Nat.blt 1 (zak k).1 with
        | true => match Nat.blt (zak k).1 4 with
          | true => some (Nat.blt i (cn k) && zin j (zak k).2, S.1 + n, S.2.1, .inr (.inr (S.2.2.2.2.2 k i j.toNatClampNeg)) :: st, S.2.2.2)
          | false => none
        | false => none
      | false => none
    | _ => none
  | .iastore => zas cn 0 (fun x => x) n S
  | .bastore => zas cn 1 (vp_nar .boolean) n S
  | .arraylength => zlen cn n S
  | .getstatic q => zI0 n (.inr (.inr (some (2000 + q, 0)))) S
  | .ldc t => some (true, t, S.2)
  | _ => none
def zrun (cn : Nat → Nat) : List (Instr × Nat) → zS → zO
  | [], S => some (true, S)
  | x :: l, S => match zstep cn x.1 x.2 S with
    | none => none
    | some (c, S1) => match zrun cn l S1 with
      | none => none
      | some (d, S2) => some (c && d, S2)
/-- the instructions that stand as they are -/
def zplain (x : Instr) : Bool := match x with
  | .iadd | .isub | .imul | .iand | .ior | .ixor | .ishl | .ishr | .iushr | .idiv | .irem | .ineg | .i2l | .l2i | .ladd | .lsub | .lmul | .land | .lor | .lcmp | .lshl | .lshr | .dup | .dup2 | .pop | .iaload | .baload | .aaload | .iastore | .bastore | .arraylength => true
  | _ => false
/-- the machine's instruction i (of length n, at pc) is the small machine's x -/
def zmt (own : String) (tb : zT) (nL pc : Nat) (i : Instr) (n : Nat) (x : Instr) : Bool := match x with
  | .iconst v => match i with
    | .iconst w => n == 1 && v == w
    | .bipush w => n == 2 && decide ((Int8.ofInt w).toInt32 = Int32.ofInt v)
    | .sipush w => n == 3 && decide ((Int16.ofInt w).toInt32 = Int32.ofInt v)
    | .ldc q => n == 2 && tb.2.1.contains (q, v)
    | .ldc_w q => n == 3 && tb.2.1.contains (q, v)
    | _ => false
  | .goto_w v => match i with
    | .lconst w => n == 1 && decide (Int64.ofNat w = Int64.ofInt v)
    | .ldc2_w q => n == 3 && tb.2.2.contains (q, v)
    | _ => false
  | .iload k => match i with
    | .iload j => n == 2 && j == k
    | .iload_n j => n == 1 && j.val == k
    | _ => false
  | .lload k => match i with
    | .lload j => n == 2 && j == k
    | .lload_n j => n == 1 && j.val == k
    | _ => false
  | .aload k => match i with
    | .aload j => n == 2 && j == k
    | .aload_n j => n == 1 && j.val == k
    | _ => false
  | .istore k => decide (k < nL) && match i with
    | .istore j => n == 2 && j == k
    | .istore_n j => n == 1 && j.val == k
    | _ => false
  | .lstore k => decide (k + 1 < nL) && match i with
    | .lstore j => n == 2 && j == k
    | .lstore_n j => n == 1 && j.val == k
    | _ => false
  | .astore k => decide (k < nL) && match i with
    | .astore j => n == 2 && j == k
    | .astore_n j => n == 1 && j.val == k
    | _ => false
  | .iinc k v => decide (k < nL) && match i with
    | .iinc j w => n == 3 && (j == k && v == w)
    | _ => false
  | .ldc t => match i with
    | .goto off => n == 3 && decide ((pc : Int) + off = (t : Int))
    | _ => false
  | .multianewarray k s => match i with
    | .getfield q => n == 3 && (tb.1.contains (q, k, s) && ((zft k s == 0 || zft k s == 3) && (decide (k < 13) && decide (s < zof k))))
    | _ => false
  | .getfield m => match i with
    | .getfield q => n == 3 && (tb.1.contains (q, m / 100, m % 100) && (zft (m / 100) (m % 100) == 2 && (decide (m / 100 < 13) && decide (m % 100 < zof (m / 100)))))
    | _ => false
  | .anewarray m => match i with
    | .getfield q => n == 3 && (tb.1.contains (q, m / 100, m % 100) && (zft (m / 100) (m % 100) == 1 && (decide (m / 100 < 13) && decide (m % 100 < zof (m / 100)))))
    | _ => false
  | .invokeinterface k s => match i with
    | .putfield q => n == 3 && (tb.1.contains (q, k, s) && (zft k s == 0 && (decide (k < 13) && (decide (s < zof k) && decide ((zTt k s).2.2.2 = false)))))
    | _ => false
  | .invokedynamic m => match i with
    | .putfield q => n == 3 && (tb.1.contains (q, m / 100, m % 100) && (zft (m / 100) (m % 100) == 3 && (decide (m / 100 < 13) && (decide (m % 100 < zof (m / 100)) && decide ((zTt (m / 100) (m % 100)).2.2.2 = false)))))
    | _ => false
  | .checkcast m => match i with
    | .putfield q => n == 3 && (tb.1.contains (q, m / 100, m % 100) && (zft (m / 100) (m % 100) == 1 && (decide (m / 100 < 13) && (decide (m % 100 < zof (m / 100)) && decide ((zTt (m / 100) (m % 100)).2.2.2 = false)))))
    | _ => false
  | .getstatic w => match i with
    | .getstatic q => n == 3 && (decide (w < 3) && decide (Cond.fieldLink own q (zsC w) (zsN w) "[I" ∈ zt))
    | _ => false
  | x => zplain x && (decide (i = x) && n == 1)
def znext (x : Instr) (pc n : Nat) : Nat := match x with
  | .ldc t => t
  | _ => pc + n
def zok (cc : ByteArray) (own : String) (tb : zT) (nL : Nat) : Nat → List (Instr × Nat) → Bool
  | _, [] => true
  | pc, x :: l => (match decode cc pc with
    | .ok (i, n) => n == x.2 && zmt own tb nL pc i n x.1
    | .error _ => false) && zok cc own tb nL (znext x.1 pc x.2) l
