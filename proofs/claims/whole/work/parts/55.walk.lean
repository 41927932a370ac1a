/-! the law from its entry, over its own function -/
def mLw (L : Nat) (xs : Nat → Int32) : Nat → Int32 → cM → rM → Bool
  | 0, _, _, _ => false
  | n + 1, i, MC, MR => if Int32.ofNat L - 6 < i then true else match mL_sw L xs i MC MR with
    | some q => mLw L xs n (i + 6) q.1 q.2
    | none => false
def zM0 : zM := (fun _ _ _ => 0, fun _ _ _ => 0, fun _ _ _ => none)
/-- memory behind EarField(), and behind EarFieldModel() -/
def zM1 : zM := mk11_0 (zclr zM0 11 0)
def zM2 : zM := mk12_0 (zclr zM1 12 0)
/-- what changes of the class's references, at the start -/
def zP0 (k i s : Nat) : Nat := match k with
  | 901 => 10 + 4 * i + s
  | 4 => match s with
    | 9 => 1
    | _ => 0
  | _ => 0
def cM0 : cM := (zM1.1, zP0)
def rM0 : rM := (zM2.1, zM2.2.1)
theorem arrV_congr {cI : ClassId} {N : Nat} {f g : Nat → Value} (h : ∀ j, j < N → f j = g j) : arrV cI N f = arrV cI N g := by
  unfold arrV
  congr 1
  congr 1
  funext j
  exact h j.val j.isLt
/-- the same cell, as far as the heap sees it -/
theorem zat_congr {D : va_G} {ad : zR → Nat} {ca : Nat → ClassId} {M M' : zM} {q : zR} {a : Nat} {H : Heap} (h1 : ∀ s, M.1 q.1 q.2 s = M'.1 q.1 q.2 s) (h2 : ∀ s, s < zof q.1 → q.1 < 13 → zft q.1 s = 1 → M.2.1 q.1 q.2 s = M'.2.1 q.1 q.2 s) (h3 : ∀ s, s < zof q.1 → q.1 < 13 → zft q.1 s = 2 → M.2.2 q.1 q.2 s = M'.2.2 q.1 q.2 s) (h4 : ∀ s, s < (zak q.1).2 → ¬ q.1 < 13 → 1 < (zak q.1).1 → M.2.2 q.1 q.2 s = M'.2.2 q.1 q.2 s) (h : va_at D vwCl (a, zcell ad ca M q) H) : va_at D vwCl (a, zcell ad ca M' q) H := by
  obtain ⟨k, i⟩ := q
  by_cases hk : k < 13
  · rw [zcell_obj hk] at h ⊢
    have e : (List.range (zof k)).map (zfv ad M k i) = (List.range (zof k)).map (zfv ad M' k i) := by
      refine List.map_congr_left fun s hs => ?_
      have hs : s < zof k := by simpa using hs
      unfold zfv
      split
      · rename_i e; rw [h2 s hs hk e]
      · rename_i e; rw [h3 s hs hk e]
      · rw [h1 s]
    rw [← e]; exact h
  · rw [zcell_arr hk] at h ⊢
    have h : H[a]? = some (vp_cell (ca (zak k).1) (zac ad M k i)) := h
    show H[a]? = some (vp_cell (ca (zak k).1) (zac ad M' k i))
    rw [h]
    congr 1
    unfold zac
    split
    · rw [show (fun j => M.1 k i j) = (fun j => M'.1 k i j) from funext h1]
    · rw [show (fun j => M.1 k i j) = (fun j => M'.1 k i j) from funext h1]
    · rename_i e0 e1
      show arrV _ _ (fun j => va_rf ((M.2.2 k i j).map ad)) = arrV _ _ (fun j => va_rf ((M'.2.2 k i j).map ad))
      refine arrV_congr fun j hj => ?_
      have hgt : 1 < (zak k).1 := by
        rcases Nat.lt_or_ge 1 (zak k).1 with h | h
        · exact h
        · rcases Nat.lt_or_ge (zak k).1 1 with h' | h'
          · exact absurd (by omega) e0
          · exact absurd (by omega) e1
      rw [h4 j hj hk hgt]
theorem zGo_M {X : zX} {q : ByteArray × Nat × String × zT} {G : zG} {n k pc : Nat} {lv : zLv} {st : List zV} {M M' : zM} (h : ∀ r ∈ zgU G, ∀ H : Heap, va_at (zgD G) vwCl (zgad G r, zcell (zgad G) (zgca G) M r) H → va_at (zgD G) vwCl (zgad G r, zcell (zgad G) (zgca G) M' r) H) (K : zGo (X, q, G) n k (pc, lv, st, M')) : zGo (X, q, G) n k (pc, lv, st, M) := by
  obtain ⟨p, l, e, R, s, m, args, below, meth, c, Q⟩ := X
  obtain ⟨cc, nL, own, tb⟩ := q
  exact fun H locs ls hP hS hl => K H locs ls (zP_of fun r hr => h r hr H (zP_at hP hr)) hS hl
/-- class cells out of the one, reference cells out of the other -/
def zmx (A B : zM) : zM := (fun k i s => match zisR k with
  | true => B.1 k i s
  | false => A.1 k i s, fun k i s => match zisR k with
  | true => B.2.1 k i s
  | false => A.2.1 k i s, fun k i s => match zisR k with
  | true => B.2.2 k i s
  | false => A.2.2 k i s)
theorem zmx_C {A B : zM} {ad : zR → Nat} {ca : Nat → ClassId} {q : zR} (h : zisR q.1 = false) : zcell ad ca (zmx A B) q = zcell ad ca A q := by
  obtain ⟨k, i⟩ := q
  have h : zisR k = false := h
  unfold zcell zac zfv zmx
  simp only [h]
theorem zmx_R {A B : zM} {ad : zR → Nat} {ca : Nat → ClassId} {q : zR} (h : zisR q.1 = true) : zcell ad ca (zmx A B) q = zcell ad ca B q := by
  obtain ⟨k, i⟩ := q
  have h : zisR k = true := h
  unfold zcell zac zfv zmx
  simp only [h]
set_option maxRecDepth 100000 in
theorem zM1_F : ∀ q ∈ zUC, (∀ s, s < zof q.1 → zft q.1 s = 2 → zM1.2.2 q.1 q.2 s = zlC zP0 q.1 q.2 s) ∧ (1 < (zak q.1).1 → ∀ s, s < (zak q.1).2 → zM1.2.2 q.1 q.2 s = zlC zP0 q.1 q.2 s ∨ (zak q.1).1 = 9) := by decide +kernel
set_option maxRecDepth 100000 in
theorem zM2_F : ∀ q ∈ zUR, (∀ s, s < zof q.1 → zft q.1 s = 2 → zM2.2.2 q.1 q.2 s = zlR q.1 q.2 s) ∧ ¬ 1 < (zak q.1).1 ∨ q.1 < 13 ∧ (∀ s, s < zof q.1 → zft q.1 s = 2 → zM2.2.2 q.1 q.2 s = zlR q.1 q.2 s) := by decide +kernel
theorem zUC_l : ∀ q ∈ zUC, ∀ s, s < zof q.1 → zft q.1 s ≠ 1 := by decide +kernel
theorem zUC_9 : ∀ q ∈ zUC, ¬ q.1 < 13 → (zak q.1).1 ≠ 9 := by decide +kernel
theorem zUR_9 : ∀ q ∈ zUR, ¬ q.1 < 13 → ¬ 1 < (zak q.1).1 := by decide +kernel
theorem zUC_12 : ∀ q ∈ zUC, q.1 ≠ 12 := by decide +kernel
/-- the memory that the constructors leave, in the functions' own form -/
theorem zstart_M {D : va_G} {ad : zR → Nat} {ca : Nat → ClassId} {r : zR} (hr : r ∈ zUA) {a : Nat} (H : Heap) (h : va_at D vwCl (a, zcell ad ca (zmx (zclr zM1 12 0) zM2) r) H) : va_at D vwCl (a, zcell ad ca (zmix cM0 rM0) r) H := by
  rcases List.mem_append.mp (show r ∈ zUC ++ zUR from hr) with hC | hR
  · rw [zmix_C (zUC_k r hC)]
    rw [zmx_C (zUC_k r hC)] at h
    have h12 := zUC_12 r hC
    refine zat_congr (fun s => ?_) (fun s hs _ h1 => absurd h1 (zUC_l r hC s hs)) (fun s hs hk h2 => ?_) (fun s hs hk ht => ?_) h
    · show (if r.1 = 12 ∧ r.2 = 0 then 0 else zM1.1 r.1 r.2 s) = zM1.1 r.1 r.2 s
      rw [if_neg (fun z => h12 z.1)]
    · show (if r.1 = 12 ∧ r.2 = 0 then none else zM1.2.2 r.1 r.2 s) = zlC zP0 r.1 r.2 s
      rw [if_neg (fun z => h12 z.1)]
      exact (zM1_F r hC).1 s hs h2
    · show (if r.1 = 12 ∧ r.2 = 0 then none else zM1.2.2 r.1 r.2 s) = zlC zP0 r.1 r.2 s
      rw [if_neg (fun z => h12 z.1)]
      exact ((zM1_F r hC).2 ht s hs).resolve_right (zUC_9 r hC hk)
  · rw [zmix_R (zUR_k r hR)]
    rw [zmx_R (zUR_k r hR)] at h
    refine zat_congr (M := zM2) (M' := zfR rM0) (fun s => rfl) (fun s _ _ _ => rfl) (fun s hs hk h2 => ?_) (fun s hs hk ht => absurd ht (zUR_9 r hR hk)) h
    rcases zM2_F r hR with ⟨h, -⟩ | ⟨-, h⟩
    · exact h s hs h2
    · exact h s hs h2
/-- addresses -/
def zad (base : Nat) (ext : zR → Nat) (r : zR) : Nat := match Nat.blt r.1 2000 with
  | true => base + zUA.idxOf r
  | false => ext r
theorem zUA_idx : ∀ j, j < 209 → (zUA[j]?.map (fun r => (zUA.idxOf r, Nat.blt r.1 2000))) = some (j, true) := by decide +kernel
theorem zad_W (base : Nat) (ext : zR → Nat) : zWh zUA base (zad base ext) (fun x => base ≤ x) := by
  refine ⟨fun j r h => ?_, fun x hx => hx⟩
  have hl := (List.getElem?_eq_some_iff.mp h).1
  have h209 : zUA.length = 209 := by unfold zUA; rw [List.length_append, zUC_len, zUR_len]
  have h1 := zUA_idx j (by omega)
  rw [h] at h1
  have h1 : some (zUA.idxOf r, Nat.blt r.1 2000) = some (j, true) := h1
  injection h1 with h1
  injection h1 with e1 e2
  unfold zad
  rw [e2, e1]
section ZST
variable {p : Program} {l : Launch} {e : Env} {s : State} {m : MethodId} {below : List Frame} {meth : Method} {c : Code} {D : va_G} {ad : zR → Nat} {ca : Nat → ClassId} {b L n k : Nat} {xs : Nat → Int32}
abbrev zLC (p : Program) (l : Launch) (e : Env) (s : State) (m : MethodId) (below : List Frame) (meth : Method) (c : Code) (b : Nat) (G : zG) : zC := zCm p l e room_1 s m #[Value.ref b] below meth c (lw_Z below #[Value.ref b] s) code 4 R_law tbL G
/-- the loop -/
theorem mLw_ok (hr : meth.sig.returnType = ret) (hW : zWh zUA s.heap.size ad (fun x => s.heap.size ≤ x)) (Z : zOK (zLC p l e s m below meth c b (zGL D ad ca (fun x => s.heap.size ≤ x)))) (hX : va_X (ad (2200, 0)) L xs s s.heap ∧ ad (2200, 0) < s.heap.size ∧ ¬ s.heap.size ≤ ad (2200, 0)) (hnk : n ≤ 600000 ∧ k ≤ 7302250) : ∀ (f : Nat) (i : Int32) (MC : cM) (MR : rM), mLw L xs f i MC MR = true → zGo (zLC p l e s m below meth c b (zGL D ad ca (fun x => s.heap.size ≤ x))) n k (18, [(0, .inr (.inr (some (2200, 0)))), (1, .inr (.inr (some (11, 0)))), (2, .inr (.inr (some (12, 0)))), (3, .inl i)], [], zmix MC MR) := by
  intro f
  induction f with
  | zero => intro i MC MR h; cases h
  | succ f ih =>
    intro i MC MR h
    refine zblq Z rfl [(.iload 3, 1), (.aload 0, 1)] (S' := (20, [(0, .inr (.inr (some (2200, 0)))), (1, .inr (.inr (some (11, 0)))), (2, .inr (.inr (some (12, 0)))), (3, .inl i)], [.inr (.inr (some (2200, 0))), .inl i], zmix MC MR)) (b := true) (by decide +kernel) rfl rfl ?_
    refine c_slen Z hX (by decide +kernel) ?_
    refine zblq Z rfl [(.iconst 6, 2), (.isub, 1)] (S' := (24, [(0, .inr (.inr (some (2200, 0)))), (1, .inr (.inr (some (11, 0)))), (2, .inr (.inr (some (12, 0)))), (3, .inl i)], [.inl (Int32.ofNat L - 6), .inl i], zmix MC MR)) (b := true) (by decide +kernel) rfl rfl ?_
    refine zic_gt Z (off := 1651) (tgt := 1675) (by decide +kernel) (by decide) (fun hb => ?_) (fun hb => ?_)
    · refine zblq Z rfl [(.iconst 1, 1)] (S' := (1676, [(0, .inr (.inr (some (2200, 0)))), (1, .inr (.inr (some (11, 0)))), (2, .inr (.inr (some (12, 0)))), (3, .inl i)], [.inl 1], zmix MC MR)) (b := true) (by decide +kernel) rfl rfl ?_
      obtain ⟨hx, hc, hml, hown, hts, hK, hG, htb, hE, hlocks⟩ := Z
      intro H locs ls hP hS hl
      exact va_forget (fun q hq => hS.2.2 q hq) (W.widen hnk.1 hnk.2 (lw_ret (pc := 1676) hx hc hr hlocks (by decide +kernel)))
    · unfold mLw at h
      rw [if_neg hb] at h
      cases hsw : mL_sw L xs i MC MR with
      | none => rw [hsw] at h; cases h
      | some q =>
        rw [hsw] at h
        obtain ⟨MC', MR'⟩ := q
        refine mL_sw_ok hW Z hX hnk hsw ?_
        refine zblq Z rfl [(.iinc 3 6, 3), (.ldc 18, 3)] (S' := (18, [(0, .inr (.inr (some (2200, 0)))), (1, .inr (.inr (some (11, 0)))), (2, .inr (.inr (some (12, 0)))), (3, .inl (i + Int32.ofInt 6))], [], zmix MC' MR')) (b := true) (by decide +kernel) rfl rfl ?_
        exact ih (i + Int32.ofInt 6) MC' MR' h
end ZST
