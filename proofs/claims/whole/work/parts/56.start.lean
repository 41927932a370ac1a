theorem zGt_UA {D : va_G} {ad : zR → Nat} {ca : Nat → ClassId} {A : Nat → Prop} {g : Nat} (h : g ≤ 157) : zGt zUA D ad ca A g = zGt zUC D ad ca A g := by
  unfold zGt zUA
  rw [List.take_append_of_le_length (by rw [zUC_len]; exact h)]
theorem zGt_L {D : va_G} {ad : zR → Nat} {ca : Nat → ClassId} {A : Nat → Prop} : zGt zUA D ad ca A 209 = zGL D ad ca A := by
  unfold zGL zGt
  rw [List.take_of_length_le (by unfold zUA; rw [List.length_append, zUC_len, zUR_len]; omega)]
theorem zUA_158 : ∀ q ∈ zUA.take 158, q ∈ zUC ∨ q = (12, 0) := by decide +kernel
theorem zUR_1 : zUR.take 1 = [(12, 0)] := by decide +kernel
set_option maxHeartbeats 4000000 in
set_option maxRecDepth 100000 in
/-- from the entry to the loop -/
theorem walk_start {p : Program} {e : Env} {s : State} {m : MethodId} {below : List Frame} {meth : Method} {c : Code} (l : Launch) {b L : Nat} {xs : Nat → Int32} (C0 : lw_At p s m meth c b L xs) (hlaw : ∃ f, mLw L xs f 0 cM0 rM0 = true) : W p l e room_1 s m #[Value.ref b] below meth c s.heap [] 0 0 (lw_Z below #[Value.ref b] s) (entryFrame m ([Value.ref b] : List Value).toArray 4) := by
  obtain ⟨hx, hb, hr, hml, hown, hts, hX, hbl, hlocks, hgv⟩ := id C0
  have hf := flat_of_before _ hgv
  have hA : ∀ a : Nat, a < s.heap.size → ¬ s.heap.size ≤ a := fun a h => by omega
  have htz : ∀ w ∈ zt, w.before #[Value.ref b] s = true := fun w hw => hts w (zt_in hw).1
  -- classes
  have h0 : ∀ k : Nat, ∃ q : ClassId × (Nat → Nat), k < 13 → u_Kn s (zRt k) (zTt k) (zof k) q.1 q.2 := by
    intro k
    by_cases hk : k < 13
    · have hi : (Cond.instantiable (zRt k) (zof k)).before #[Value.ref b] s = true := by
        match k, hk with
        | 0, _ => exact htz _ ist_0
        | 1, _ => exact htz _ ist_1
        | 2, _ => exact htz _ ist_2
        | 3, _ => exact htz _ ist_3
        | 4, _ => exact htz _ ist_4
        | 5, _ => exact htz _ ist_5
        | 6, _ => exact htz _ ist_6
        | 7, _ => exact htz _ ist_7
        | 8, _ => exact htz _ ist_8
        | 9, _ => exact htz _ ist_9
        | 10, _ => exact htz _ ist_10
        | 11, _ => exact htz _ ist_11
        | 12, _ => exact htz _ ist_12
        | k + 13, h => omega
      obtain ⟨cC, iS, h⟩ := u_known htz (zcl_in k hk) hi
      exact ⟨(cC, iS), fun _ => h⟩
    · exact ⟨(0, fun _ => 0), fun h => absurd h hk⟩
  obtain ⟨D, hD⟩ : ∃ D : va_G, ∀ k, k < 13 → u_Kn s (zRt k) (zTt k) (zof k) (D.1 k) (D.2 k) := ⟨(fun k => (Classical.choose (h0 k)).1, fun k => (Classical.choose (h0 k)).2), fun k hk => Classical.choose_spec (h0 k) hk⟩
  -- array classes
  have hp : ∀ t : FieldType, Cond.arrayClass t ∈ lw_tbl → ∃ cA : ClassId, ArrOfT s cA t ∧ s.vm.findClass ("[" ++ t.toString) = some cA := by
    intro t ht
    obtain ⟨cA, kA, comp, h1, h2, h3⟩ := Cond.arrayClass_spec (hts _ ht)
    exact ⟨cA, fun n z => ⟨fun k h => (by cases h), kA, h2, comp, h3⟩, h1⟩
  obtain ⟨cI, hI1, hI2⟩ := hp _ ss_aI
  obtain ⟨cZ, hZ1, hZ2⟩ := hp _ ss_aZ
  have hq : ∀ C : String, va_AO C s → ∃ cA : ClassId, ArrOfT s cA (.object C) ∧ va_RA s cA (.object C) := by
    intro C h
    obtain ⟨comp, cA, kA, f1, f2, f3, f4, f5⟩ := Cond.arrayOver_spec h
    exact ⟨cA, fun n z => ⟨fun k h => (by cases h), kA, f3, comp, f4⟩, kA, comp, f3, f4, f1, f5⟩
  have ho1 := ss_oB hts
  have ho2 := ss_oS hts
  obtain ⟨cB, hB1, hB2⟩ := hq _ ho1
  obtain ⟨cS, hS1, hS2⟩ := hq _ ho2
  obtain ⟨ca, hca⟩ : ∃ ca : Nat → ClassId, va_K D vwCl (ztys ca) s := by
    refine ⟨fun t => match t with
      | 0 => cI
      | 1 => cZ
      | 2 => cB
      | _ => cS, fun k q h => ?_, fun k q h => ?_⟩
    · have hk : k < 13 := (List.getElem?_eq_some_iff.mp h).1
      rw [zcl_at k hk] at h
      cases h
      exact hD k hk
    · match k, h with
      | 0, h => cases h; exact ⟨hI1, hI2⟩
      | 1, h => cases h; exact ⟨hZ1, hZ2⟩
      | 2, h => cases h; exact ⟨hB1, hB2⟩
      | 3, h => cases h; exact ⟨hS1, hS2⟩
      | k + 4, h => simp [ztys] at h
  -- what lies outside
  have h1 := ss_st (A := fun x => s.heap.size ≤ x) hf hts hA
  obtain ⟨adK, adV, h2, h3⟩ := ss_str (A := fun x => s.heap.size ≤ x) hf hts hA
  have h4 := ss_cs (A := fun x => s.heap.size ≤ x) hf hts hA
  obtain ⟨fm, h5⟩ : ∃ fm : Nat, va_Z "jdk/internal/util/Preconditions" "SIOOBE_FORMATTER" "Ljava/util/function/BiFunction;" .null (fun x => s.heap.size ≤ x) s s.heap ∨ va_Z "jdk/internal/util/Preconditions" "SIOOBE_FORMATTER" "Ljava/util/function/BiFunction;" (.ref fm) (fun x => s.heap.size ≤ x) s s.heap := by
    rcases ss_fm (A := fun x => s.heap.size ≤ x) hf hts hA with h | ⟨t, h⟩
    · exact ⟨0, Or.inl h⟩
    · exact ⟨t, Or.inr h⟩
  obtain ⟨s0, hs0⟩ := h1 0 (by decide)
  obtain ⟨s1, hs1⟩ := h1 1 (by decide)
  obtain ⟨s2, hs2⟩ := h1 2 (by decide)
  obtain ⟨ext, hext⟩ : ∃ ext : zR → Nat, ext = fun r => match r.1 with
    | 2000 => s0
    | 2001 => s1
    | 2002 => s2
    | 2100 => adK r.2
    | 2101 => adV r.2
    | 2102 => fm
    | _ => b := ⟨_, rfl⟩
  have hW := zad_W s.heap.size ext
  obtain ⟨ad, had⟩ : ∃ ad, ad = zad s.heap.size ext := ⟨_, rfl⟩
  rw [← had] at hW
  have a0 : ad (2000, 0) = s0 := by rw [had, hext]; rfl
  have a1 : ad (2001, 0) = s1 := by rw [had, hext]; rfl
  have a2 : ad (2002, 0) = s2 := by rw [had, hext]; rfl
  have aK : ∀ n, ad (2100, n) = adK n := fun n => by rw [had, hext]; rfl
  have aV : ∀ n, ad (2101, n) = adV n := fun n => by rw [had, hext]; rfl
  have aF : ad (2102, 0) = fm := by rw [had, hext]; rfl
  have aX : ad (2200, 0) = b := by rw [had, hext]; rfl
  have hE : ∀ U g, zE (zGt U D ad ca (fun x => s.heap.size ≤ x) g) s := by
    intro U g
    refine ⟨fun n hn => ?_, ?_, fun n hn => ?_, h4, ?_⟩
    · match n, hn with
      | 0, _ => show va_Z _ _ _ (.ref (ad (2000, 0))) _ _ _ ∧ va_T _ (ad (2000, 0)) _ _ _ _ _; rw [a0]; exact hs0
      | 1, _ => show va_Z _ _ _ (.ref (ad (2001, 0))) _ _ _ ∧ va_T _ (ad (2001, 0)) _ _ _ _ _; rw [a1]; exact hs1
      | 2, _ => show va_Z _ _ _ (.ref (ad (2002, 0))) _ _ _ ∧ va_T _ (ad (2002, 0)) _ _ _ _ _; rw [a2]; exact hs2
      | n + 3, h => omega
    · show vk_S 11 zstL zstB (fun n => ad (2100, n)) (fun n => ad (2101, n)) _ _ _
      rw [show (fun n => ad (2100, n)) = adK from funext aK, show (fun n => ad (2101, n)) = adV from funext aV]
      exact h2
    · show vk_R _ _ _ (ad (2100, n)) s
      rw [aK]; exact h3 n hn
    · show _ ∨ va_Z _ _ _ (.ref (ad (2102, 0))) _ _ _
      rw [aF]; exact h5
  have hX' : va_X (ad (2200, 0)) L xs s s.heap ∧ ad (2200, 0) < s.heap.size ∧ ¬ s.heap.size ≤ ad (2200, 0) := by
    rw [aX]; exact ⟨hX, hbl, by omega⟩
  have Z : ∀ g, zOK (zLC p l e s m below meth c b (zGt zUA D ad ca (fun x => s.heap.size ≤ x) g)) := fun g => ⟨hx, hb, hml, hown, htz, hca, zGt_ok hW _, tbL_ok, hE _ _, hlocks⟩
  have ZL : zOK (zLC p l e s m below meth c b (zGL D ad ca (fun x => s.heap.size ≤ x))) := by rw [← zGt_L]; exact Z 209
  have hWC : zWh zUC s.heap.size ad (fun x => s.heap.size ≤ x) := ⟨fun j r h => (zW_C hW h).1, fun x hx => hx⟩
  have hWR : zWh zUR (s.heap.size + 157) ad (fun x => s.heap.size + 157 ≤ x) := ⟨fun j r h => by rw [zW_R hW h]; omega, fun x hx => hx⟩
  obtain ⟨f, hlaw⟩ := hlaw
  have hl := lv_entry ([.ref b]) (n := 4) (Nat.le_of_ble_eq_true rfl)
  rw [lg_entry_eq]
  suffices w : zGo (zLC p l e s m below meth c b (zGt zUA D ad ca (fun x => s.heap.size ≤ x) 0)) 0 0 (0, [(0, .inr (.inr (some (2200, 0))))], [], zM0) by
    refine w s.heap [] _ (fun k q h => by simp [zws, zgU, zGt] at h) va_S.rf ?_
    show lv_has _ 4 [(0, Value.ref (ad (2200, 0)))]
    rw [aX]
    exact hl
  refine c_new (U := zUA) (base := s.heap.size) (n0 := 0) (n := 0) (g := 0) hW rfl rfl (kk := 11) (i := 0) rfl (Z 0) (by decide) lkL_11 ist_11 ini_11 ⟨by exact Nat.le_of_ble_eq_true rfl, by exact Nat.le_of_ble_eq_true rfl⟩ (by decide +kernel) ?_
  refine zblq (Z 1) rfl [(.dup, 1)] (S' := (4, [(0, .inr (.inr (some (2200, 0))))], [.inr (.inr (some (11, 0))), .inr (.inr (some (11, 0)))], zclr zM0 11 0)) (b := true) (by decide +kernel) rfl rfl ?_
  have Z1 := Z 1
  rw [zGt_UA (by decide)] at Z1 ⊢
  refine c_call (n := 1) (n0 := 0) (g := 1) hWC rfl rfl (by decide +kernel) Z1 (as := []) (st := [.inr (.inr (some (11, 0)))]) (mc := 156) (ms := 11205) (ct11_0 hWC _) ho1 ho2 cwLi_11 inLi_11 rfl rfl ⟨by exact Nat.le_of_ble_eq_true rfl, by exact Nat.le_of_ble_eq_true rfl⟩ rfl (by decide +kernel) ⟨by exact Nat.le_of_ble_eq_true rfl, by exact Nat.le_of_ble_eq_true rfl⟩ ?_
  show zGo (zLC p l e s m below meth c b (zGt zUC D ad ca (fun x => s.heap.size ≤ x) 157)) 157 (0 + zof 11 + 11205) (7, [(0, .inr (.inr (some (2200, 0))))], [.inr (.inr (some (11, 0)))], zM1)
  rw [← zGt_UA (Nat.le_refl _)]
  refine zblq (Z 157) rfl [(.astore 1, 1)] (S' := (8, [(0, .inr (.inr (some (2200, 0)))), (1, .inr (.inr (some (11, 0))))], [], zM1)) (b := true) (by decide +kernel) rfl rfl ?_
  refine c_new (U := zUA) (base := s.heap.size) (n0 := 0) (n := 157) (g := 157) hW rfl rfl (kk := 12) (i := 0) (by decide +kernel) (Z 157) (by decide) lkL_12 ist_12 ini_12 ⟨by exact Nat.le_of_ble_eq_true rfl, by exact Nat.le_of_ble_eq_true rfl⟩ (by decide +kernel) ?_
  refine zblq (Z 158) rfl [(.dup, 1)] (S' := (12, [(0, .inr (.inr (some (2200, 0)))), (1, .inr (.inr (some (11, 0))))], [.inr (.inr (some (12, 0))), .inr (.inr (some (12, 0)))], zclr zM1 12 0)) (b := true) (by decide +kernel) rfl rfl ?_
  have hFr : zFr (zGt zUA D ad ca (fun x => s.heap.size ≤ x) 158) (zGt zUA D ad ca (fun x => s.heap.size ≤ x) 209) (zGt zUR D ad ca (fun x => s.heap.size + 157 ≤ x) 1) (zGt zUR D ad ca (fun x => s.heap.size + 157 ≤ x) 52) (zclr zM1 12 0) (zmx (zclr zM1 12 0) zM2) (zclr zM1 12 0) zM2 := by
    refine ⟨⟨rfl, rfl, rfl⟩, ⟨rfl, rfl, rfl, rfl⟩, ⟨rfl, rfl, rfl, rfl⟩, fun x hx => (by have hx : s.heap.size + 157 ≤ x := hx; show s.heap.size ≤ x; omega), fun q hq => ⟨?_, rfl⟩, fun q hq => ?_⟩
    · have hq : q ∈ zUR.take 1 := hq
      rw [zUR_1] at hq
      rw [List.mem_singleton.mp hq]
      exact zmU (j := 157) (by decide +kernel) (by decide)
    · have hq : q ∈ zUA := List.mem_of_mem_take hq
      rcases List.mem_append.mp (show q ∈ zUC ++ zUR from hq) with h | h
      · obtain ⟨j, hj⟩ := List.getElem?_of_mem h
        obtain ⟨e1, e2⟩ := zW_C hW hj
        refine Or.inr ⟨?_, fun z => ?_, zmx_C (zUC_k q h)⟩
        · refine zmU (j := j) ?_ (by omega)
          unfold zUA
          rw [List.getElem?_append_left (by rw [zUC_len]; exact e2)]; exact hj
        · have z : s.heap.size + 157 ≤ ad q := z
          omega
      · refine Or.inl ⟨?_, zmx_R (zUR_k q h)⟩
        show q ∈ zUR.take 52
        rw [List.take_of_length_le (by rw [zUR_len]; omega)]; exact h
  refine zcallJ (n := 158) (Z 158) (as := []) (st := [.inr (.inr (some (12, 0)))]) (mc := 51) (ms := 42196) (ct12_0 hWR (zclr zM1 12 0)) hFr (by omega) (zlastC (n0 := 0) hW rfl rfl (by decide +kernel)) ho1 ho2 cwLi_12 inLi_12 rfl rfl ⟨by exact Nat.le_of_ble_eq_true rfl, by exact Nat.le_of_ble_eq_true rfl⟩ rfl (by decide +kernel) ⟨by exact Nat.le_of_ble_eq_true rfl, by exact Nat.le_of_ble_eq_true rfl⟩ ?_
  rw [zGt_L]
  refine zGo_M (M' := zmix cM0 rM0) (fun r hr H h => zstart_M hr H h) ?_
  refine zblq ZL rfl [(.astore 2, 1), (.iconst 0, 1), (.istore 3, 1)] (S' := (18, [(0, .inr (.inr (some (2200, 0)))), (1, .inr (.inr (some (11, 0)))), (2, .inr (.inr (some (12, 0)))), (3, .inl 0)], [], zmix cM0 rM0)) (b := true) (by decide +kernel) rfl rfl ?_
  exact mLw_ok hr hW ZL hX' ⟨by exact Nat.le_of_ble_eq_true rfl, by exact Nat.le_of_ble_eq_true rfl⟩ f 0 cM0 rM0 hlaw
