/-! what the generated functions stand on -/
abbrev rM : Type := (Nat → Nat → Nat → Int32) × (Nat → Nat → Nat → Int64)
abbrev cM : Type := (Nat → Nat → Nat → Int32) × (Nat → Nat → Nat → Nat)
def rg (M : rM) (k i s : Nat) : Int32 := M.1 k i s
def rgl (M : rM) (k i s : Nat) : Int64 := M.2 k i s
def rs (M : rM) (k i s : Nat) (v : Int32) : rM := (zuI M.1 k i s v, M.2)
def rsl (M : rM) (k i s : Nat) (v : Int64) : rM := (M.1, zuL M.2 k i s v)
def cg (M : cM) (k i s : Nat) : Int32 := M.1 k i s
def cs (M : cM) (k i s : Nat) (v : Int32) : cM := (zuI M.1 k i s v, M.2)
def cp (M : cM) (k i s : Nat) : Nat := M.2 k i s
def zfR (M : rM) : zM := (M.1, M.2, zlR)
def zfC (M : cM) : zM := (M.1, fun _ _ _ => 0, zlC M.2)
abbrev nx (j : Int32) : Nat := j.toNatClampNeg
def zgd {α : Type} (b : Bool) (f : Option α) : Option α := match b with
  | true => f
  | false => none
def zbd {α β γ : Type} (o : Option (α × β)) (f : α → β → Option γ) : Option γ := match o with
  | some q => f q.1 q.2
  | none => none
def zbv {β γ : Type} (o : Option β) (f : β → Option γ) : Option γ := match o with
  | some q => f q
  | none => none
/-- more turns than any loop takes -/
def zfu : Nat := 100000
theorem zgd_inv {α : Type} {b : Bool} {f : Option α} {r : α} (h : zgd b f = some r) : b = true ∧ f = some r := by
  cases b
  · cases h
  · exact ⟨rfl, h⟩
theorem zbd_inv {α β γ : Type} {o : Option (α × β)} {f : α → β → Option γ} {r : γ} (h : zbd o f = some r) : ∃ a b, o = some (a, b) ∧ f a b = some r := by
  cases o with
  | none => cases h
  | some q => exact ⟨q.1, q.2, rfl, h⟩
theorem zbv_inv {β γ : Type} {o : Option β} {f : β → Option γ} {r : γ} (h : zbv o f = some r) : ∃ b, o = some b ∧ f b = some r := by
  cases o with
  | none => cases h
  | some q => exact ⟨q, rfl, h⟩
theorem zite_t {α : Type} {c : Prop} [Decidable c] {a b r : α} (h : (if c then a else b) = r) (hc : c) : a = r := by rw [if_pos hc] at h; exact h
theorem zite_f {α : Type} {c : Prop} [Decidable c] {a b r : α} (h : (if c then a else b) = r) (hc : ¬ c) : b = r := by rw [if_neg hc] at h; exact h
/-- a block -/
theorem zblq {X : zX} {cc : ByteArray} {nL : Nat} {own : String} {tb : zT} {G : zG} {n k pc : Nat} {lv : zLv} {st : List zV} {M : zM} (Z : zOK (X, (cc, nL, own, tb), G)) {cn : Nat → Nat} (hcn : zgcn G = cn) (blk : List (Instr × Nat)) {S' : zS} {b : Bool} (ho : zok cc own tb nL pc blk = true) (hr : zrun cn blk (pc, lv, st, M) = some (b, S')) (hb : b = true) (K : zGo (X, (cc, nL, own, tb), G) n k S') : zGo (X, (cc, nL, own, tb), G) n k (pc, lv, st, M) := by
  subst hcn
  exact zrun_sound Z ho hr hb K
def zHy (X : zX) (G : zG) (q : ByteArray × Nat × String × zT) (cn : Nat → Nat) (fr lo : Nat) (ret : Option FieldType) : Prop := zOK (X, q, G) ∧ zgcn G = cn ∧ zAt X G fr lo ret
theorem zOK_G {X : zX} {q : ByteArray × Nat × String × zT} {G : zG} (Z : zOK (X, q, G)) : zGok G := by
  obtain ⟨p, l, e, R, s, m, args, below, meth, c, Q⟩ := X
  obtain ⟨cc, nL, own, tb⟩ := q
  exact Z.2.2.2.2.2.2.1
theorem zhlv {G : zG} {cn : Nat → Nat} (hcn : zgcn G = cn) {i k : Nat} (h : Nat.blt i (cn k) = true) : Nat.blt i (zgcn G k) = true := by rw [hcn]; exact h
theorem zroom {X : zX} {G : zG} {fr lo : Nat} {ret : Option FieldType} (hA : zAt X G fr lo ret) {f maxL o : Nat} (h : f + 1 ≤ fr ∧ 8 + (maxL + 11) + o ≤ lo) : f + 1 ≤ (zXR X).frames ∧ 8 + (maxL + 11) + o ≤ (zXR X).locals := by
  obtain ⟨p, l, e, R, s, m, args, below, meth, c, Q⟩ := X
  obtain ⟨hR, -⟩ := hA
  show f + 1 ≤ R.frames ∧ 8 + (maxL + 11) + o ≤ R.locals
  rw [hR]; exact h
theorem zsw_far {x : Int32} (n : Nat) (hn : n < 2 ^ 31) (h : ∀ j : Nat, j < n → x = OfNat.ofNat j → False) : x.toInt < 0 ∨ ((n : Int) - 1) < x.toInt := by
  by_cases h0 : x.toInt < 0
  · exact Or.inl h0
  · refine Or.inr ?_
    rcases Nat.lt_or_ge x.toInt.toNat n with h1 | h1
    · refine absurd ?_ (fun q => h x.toInt.toNat h1 q)
      show x = Int32.ofNat x.toInt.toNat
      rw [← Int32.toInt_inj]
      have e := nI_toInt (n := x.toInt.toNat) (by omega)
      show x.toInt = (nI x.toInt.toNat).toInt
      rw [e]; omega
    · omega
theorem zq_1 {w : Cond} (h : w ∈ tables_1_1) : w ∈ lw_tbl := List.mem_append_right _ (List.mem_append_left _ h)
theorem zq_2 {w : Cond} (h : w ∈ tables_1_2) : w ∈ lw_tbl := List.mem_append_right _ (List.mem_append_right _ (List.mem_append_left _ h))
theorem zq_3 {w : Cond} (h : w ∈ tables_1_3) : w ∈ lw_tbl := List.mem_append_right _ (List.mem_append_right _ (List.mem_append_right _ (List.mem_append_left _ h)))
theorem zq_4 {w : Cond} (h : w ∈ tables_1_4) : w ∈ lw_tbl := List.mem_append_right _ (List.mem_append_right _ (List.mem_append_right _ (List.mem_append_right _ (List.mem_append_left _ h))))
theorem zq_5 {w : Cond} (h : w ∈ tables_1_5) : w ∈ lw_tbl := List.mem_append_right _ (List.mem_append_right _ (List.mem_append_right _ (List.mem_append_right _ (List.mem_append_right _ (List.mem_append_left _ h)))))
theorem zq_6 {w : Cond} (h : w ∈ tables_1_6) : w ∈ lw_tbl := List.mem_append_right _ (List.mem_append_right _ (List.mem_append_right _ (List.mem_append_right _ (List.mem_append_right _ (List.mem_append_right _ (List.mem_append_left _ h))))))
theorem zq_7 {w : Cond} (h : w ∈ tables_1_7) : w ∈ lw_tbl := List.mem_append_right _ (List.mem_append_right _ (List.mem_append_right _ (List.mem_append_right _ (List.mem_append_right _ (List.mem_append_right _ (List.mem_append_right _ (List.mem_append_left _ h)))))))
theorem zq_8 {w : Cond} (h : w ∈ tables_1_8) : w ∈ lw_tbl := List.mem_append_right _ (List.mem_append_right _ (List.mem_append_right _ (List.mem_append_right _ (List.mem_append_right _ (List.mem_append_right _ (List.mem_append_right _ (List.mem_append_right _ (List.mem_append_left _ h))))))))
theorem zq_9 {w : Cond} (h : w ∈ tables_1_9) : w ∈ lw_tbl := List.mem_append_right _ (List.mem_append_right _ (List.mem_append_right _ (List.mem_append_right _ (List.mem_append_right _ (List.mem_append_right _ (List.mem_append_right _ (List.mem_append_right _ (List.mem_append_right _ (h)))))))))
