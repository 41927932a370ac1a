/-! what holds at the law's entry -/
theorem eq_int {args : Array Value} {s : State} {a : Term} {x : Int32} (h : (Cond.eq a (.int x)).before args s = true) : a.eval args s none [] s = some (.int x) := by
  obtain ⟨y, h1, h2⟩ := Cond.eq_one h
  have h2 : some (Value.int x) = some y := h2
  cases h2
  exact h1
set_option maxRecDepth 100000 in
theorem ss_st {args : Array Value} {s : State} {A : Nat → Prop} (hf : ∀ c ∈ flatC (Jvm.Cond.and given_1 narrow_1), c.before args s = true) (hts : ∀ w ∈ lw_tbl, w.before args s = true) (hA : ∀ a : Nat, a < s.heap.size → ¬ A a) : ∀ n : Nat, n < 3 → ∃ t : Nat, va_Z (zsC n) (zsN n) "[I" (.ref t) A s s.heap ∧ va_T .int t (zsl n) (fun j => .int (zsv n j)) A s s.heap := by
  intro n hn
  match n, hn with
  | 0, _ =>
    obtain ⟨t, h1, h2⟩ := va_Tof (tm := .static "EarField$Boxes" "LEAST_SETTING" "[I") (ty := .int) (N := 7) (f := fun j => .int (zsv 0 j)) (by decide) (hf _ (List.mem_of_getElem? (i := 5) rfl)) (eq_int (hf _ (List.mem_of_getElem? (i := 6) rfl))) (fun j hj => by
      match j, hj with
      | 0, _ => exact eq_int (hf _ (List.mem_of_getElem? (i := 7) rfl))
      | 1, _ => exact eq_int (hf _ (List.mem_of_getElem? (i := 8) rfl))
      | 2, _ => exact eq_int (hf _ (List.mem_of_getElem? (i := 9) rfl))
      | 3, _ => exact eq_int (hf _ (List.mem_of_getElem? (i := 10) rfl))
      | 4, _ => exact eq_int (hf _ (List.mem_of_getElem? (i := 11) rfl))
      | 5, _ => exact eq_int (hf _ (List.mem_of_getElem? (i := 12) rfl))
      | 6, _ => exact eq_int (hf _ (List.mem_of_getElem? (i := 13) rfl))
      | j + 7, h => omega) hA
    exact ⟨t, va_Zref (hts _ (zq_3 (List.mem_of_getElem? (i := 42) rfl))) (hts _ (zq_1 (List.mem_of_getElem? (i := 2) rfl))) h1 hA, h2⟩
  | 1, _ =>
    obtain ⟨t, h1, h2⟩ := va_Tof (tm := .static "EarField$Boxes" "MOST_SETTING" "[I") (ty := .int) (N := 7) (f := fun j => .int (zsv 1 j)) (by decide) (hf _ (List.mem_of_getElem? (i := 15) rfl)) (eq_int (hf _ (List.mem_of_getElem? (i := 16) rfl))) (fun j hj => by
      match j, hj with
      | 0, _ => exact eq_int (hf _ (List.mem_of_getElem? (i := 17) rfl))
      | 1, _ => exact eq_int (hf _ (List.mem_of_getElem? (i := 18) rfl))
      | 2, _ => exact eq_int (hf _ (List.mem_of_getElem? (i := 19) rfl))
      | 3, _ => exact eq_int (hf _ (List.mem_of_getElem? (i := 20) rfl))
      | 4, _ => exact eq_int (hf _ (List.mem_of_getElem? (i := 21) rfl))
      | 5, _ => exact eq_int (hf _ (List.mem_of_getElem? (i := 22) rfl))
      | 6, _ => exact eq_int (hf _ (List.mem_of_getElem? (i := 23) rfl))
      | j + 7, h => omega) hA
    exact ⟨t, va_Zref (hts _ (zq_3 (List.mem_of_getElem? (i := 44) rfl))) (hts _ (zq_1 (List.mem_of_getElem? (i := 2) rfl))) h1 hA, h2⟩
  | 2, _ =>
    obtain ⟨t, h1, h2⟩ := va_Tof (tm := .static "EarField$Court" "POWERS" "[I") (ty := .int) (N := 5) (f := fun j => .int (zsv 2 j)) (by decide) (hf _ (List.mem_of_getElem? (i := 30) rfl)) (eq_int (hf _ (List.mem_of_getElem? (i := 31) rfl))) (fun j hj => by
      match j, hj with
      | 0, _ => exact eq_int (hf _ (List.mem_of_getElem? (i := 32) rfl))
      | 1, _ => exact eq_int (hf _ (List.mem_of_getElem? (i := 33) rfl))
      | 2, _ => exact eq_int (hf _ (List.mem_of_getElem? (i := 34) rfl))
      | 3, _ => exact eq_int (hf _ (List.mem_of_getElem? (i := 35) rfl))
      | 4, _ => exact eq_int (hf _ (List.mem_of_getElem? (i := 36) rfl))
      | j + 5, h => omega) hA
    exact ⟨t, va_Zref (hts _ (zq_6 (List.mem_of_getElem? (i := 80) rfl))) (hts _ (zq_1 (List.mem_of_getElem? (i := 13) rfl))) h1 hA, h2⟩
  | n + 3, h => omega
set_option maxRecDepth 100000 in
set_option maxHeartbeats 4000000 in
theorem ss_str {args : Array Value} {s : State} {A : Nat → Prop} (hf : ∀ c ∈ flatC (Jvm.Cond.and given_1 narrow_1), c.before args s = true) (hts : ∀ w ∈ lw_tbl, w.before args s = true) (hA : ∀ a : Nat, a < s.heap.size → ¬ A a) : ∃ adK adV : Nat → Nat, vk_S 11 zstL zstB adK adV A s s.heap ∧ ∀ n : Nat, n < 11 → vk_R "EarField$Text" (zstI.getD n 0) (zstT.getD n "") (adK n) s := by
  obtain ⟨adK, adV, h1, h2⟩ := vk_Sof (args := args) (N := 11) (tm := (fun i => Term.string "EarField$Text" (zstI.getD i 0))) (len := zstL) (byt := zstB) (A := A)
    (fun i hi => by
      match i, hi with
      | 0, _ => exact (by decide)
      | 1, _ => exact (by decide)
      | 2, _ => exact (by decide)
      | 3, _ => exact (by decide)
      | 4, _ => exact (by decide)
      | 5, _ => exact (by decide)
      | 6, _ => exact (by decide)
      | 7, _ => exact (by decide)
      | 8, _ => exact (by decide)
      | 9, _ => exact (by decide)
      | 10, _ => exact (by decide)
      | i + 11, h => omega)
    (fun i hi => by
      match i, hi with
      | 0, _ => exact (hf _ (List.mem_of_getElem? (i := 63) rfl))
      | 1, _ => exact (hf _ (List.mem_of_getElem? (i := 72) rfl))
      | 2, _ => exact (hf _ (List.mem_of_getElem? (i := 82) rfl))
      | 3, _ => exact (hf _ (List.mem_of_getElem? (i := 92) rfl))
      | 4, _ => exact (hf _ (List.mem_of_getElem? (i := 103) rfl))
      | 5, _ => exact (hf _ (List.mem_of_getElem? (i := 115) rfl))
      | 6, _ => exact (hf _ (List.mem_of_getElem? (i := 129) rfl))
      | 7, _ => exact (hf _ (List.mem_of_getElem? (i := 142) rfl))
      | 8, _ => exact (hf _ (List.mem_of_getElem? (i := 158) rfl))
      | 9, _ => exact (hf _ (List.mem_of_getElem? (i := 175) rfl))
      | 10, _ => exact (hf _ (List.mem_of_getElem? (i := 191) rfl))
      | i + 11, h => omega)
    (fun i hi => by
      match i, hi with
      | 0, _ => exact (hf _ (List.mem_of_getElem? (i := 64) rfl))
      | 1, _ => exact (hf _ (List.mem_of_getElem? (i := 73) rfl))
      | 2, _ => exact (hf _ (List.mem_of_getElem? (i := 83) rfl))
      | 3, _ => exact (hf _ (List.mem_of_getElem? (i := 93) rfl))
      | 4, _ => exact (hf _ (List.mem_of_getElem? (i := 104) rfl))
      | 5, _ => exact (hf _ (List.mem_of_getElem? (i := 116) rfl))
      | 6, _ => exact (hf _ (List.mem_of_getElem? (i := 130) rfl))
      | 7, _ => exact (hf _ (List.mem_of_getElem? (i := 143) rfl))
      | 8, _ => exact (hf _ (List.mem_of_getElem? (i := 159) rfl))
      | 9, _ => exact (hf _ (List.mem_of_getElem? (i := 176) rfl))
      | 10, _ => exact (hf _ (List.mem_of_getElem? (i := 192) rfl))
      | i + 11, h => omega)
    (fun i hi => by
      match i, hi with
      | 0, _ => exact (hf _ (List.mem_of_getElem? (i := 65) rfl))
      | 1, _ => exact (hf _ (List.mem_of_getElem? (i := 74) rfl))
      | 2, _ => exact (hf _ (List.mem_of_getElem? (i := 84) rfl))
      | 3, _ => exact (hf _ (List.mem_of_getElem? (i := 94) rfl))
      | 4, _ => exact (hf _ (List.mem_of_getElem? (i := 105) rfl))
      | 5, _ => exact (hf _ (List.mem_of_getElem? (i := 117) rfl))
      | 6, _ => exact (hf _ (List.mem_of_getElem? (i := 131) rfl))
      | 7, _ => exact (hf _ (List.mem_of_getElem? (i := 144) rfl))
      | 8, _ => exact (hf _ (List.mem_of_getElem? (i := 160) rfl))
      | 9, _ => exact (hf _ (List.mem_of_getElem? (i := 177) rfl))
      | 10, _ => exact (hf _ (List.mem_of_getElem? (i := 193) rfl))
      | i + 11, h => omega)
    (fun i hi => by
      match i, hi with
      | 0, _ => exact (hf _ (List.mem_of_getElem? (i := 66) rfl))
      | 1, _ => exact (hf _ (List.mem_of_getElem? (i := 75) rfl))
      | 2, _ => exact (hf _ (List.mem_of_getElem? (i := 85) rfl))
      | 3, _ => exact (hf _ (List.mem_of_getElem? (i := 95) rfl))
      | 4, _ => exact (hf _ (List.mem_of_getElem? (i := 106) rfl))
      | 5, _ => exact (hf _ (List.mem_of_getElem? (i := 118) rfl))
      | 6, _ => exact (hf _ (List.mem_of_getElem? (i := 132) rfl))
      | 7, _ => exact (hf _ (List.mem_of_getElem? (i := 145) rfl))
      | 8, _ => exact (hf _ (List.mem_of_getElem? (i := 161) rfl))
      | 9, _ => exact (hf _ (List.mem_of_getElem? (i := 178) rfl))
      | 10, _ => exact (hf _ (List.mem_of_getElem? (i := 194) rfl))
      | i + 11, h => omega)
    (fun i hi j hj => by
      match i, hi with
      | 0, _ =>
        have hj : j < 5 := hj
        match j, hj with
        | 0, _ => exact (hf _ (List.mem_of_getElem? (i := 67) rfl))
        | 1, _ => exact (hf _ (List.mem_of_getElem? (i := 68) rfl))
        | 2, _ => exact (hf _ (List.mem_of_getElem? (i := 69) rfl))
        | 3, _ => exact (hf _ (List.mem_of_getElem? (i := 70) rfl))
        | 4, _ => exact (hf _ (List.mem_of_getElem? (i := 71) rfl))
        | j + 5, h => omega
      | 1, _ =>
        have hj : j < 5 := hj
        match j, hj with
        | 0, _ => exact (hf _ (List.mem_of_getElem? (i := 76) rfl))
        | 1, _ => exact (hf _ (List.mem_of_getElem? (i := 77) rfl))
        | 2, _ => exact (hf _ (List.mem_of_getElem? (i := 78) rfl))
        | 3, _ => exact (hf _ (List.mem_of_getElem? (i := 79) rfl))
        | 4, _ => exact (hf _ (List.mem_of_getElem? (i := 80) rfl))
        | j + 5, h => omega
      | 2, _ =>
        have hj : j < 4 := hj
        match j, hj with
        | 0, _ => exact (hf _ (List.mem_of_getElem? (i := 86) rfl))
        | 1, _ => exact (hf _ (List.mem_of_getElem? (i := 87) rfl))
        | 2, _ => exact (hf _ (List.mem_of_getElem? (i := 88) rfl))
        | 3, _ => exact (hf _ (List.mem_of_getElem? (i := 89) rfl))
        | j + 4, h => omega
      | 3, _ =>
        have hj : j < 4 := hj
        match j, hj with
        | 0, _ => exact (hf _ (List.mem_of_getElem? (i := 96) rfl))
        | 1, _ => exact (hf _ (List.mem_of_getElem? (i := 97) rfl))
        | 2, _ => exact (hf _ (List.mem_of_getElem? (i := 98) rfl))
        | 3, _ => exact (hf _ (List.mem_of_getElem? (i := 99) rfl))
        | j + 4, h => omega
      | 4, _ =>
        have hj : j < 4 := hj
        match j, hj with
        | 0, _ => exact (hf _ (List.mem_of_getElem? (i := 107) rfl))
        | 1, _ => exact (hf _ (List.mem_of_getElem? (i := 108) rfl))
        | 2, _ => exact (hf _ (List.mem_of_getElem? (i := 109) rfl))
        | 3, _ => exact (hf _ (List.mem_of_getElem? (i := 110) rfl))
        | j + 4, h => omega
      | 5, _ =>
        have hj : j < 5 := hj
        match j, hj with
        | 0, _ => exact (hf _ (List.mem_of_getElem? (i := 119) rfl))
        | 1, _ => exact (hf _ (List.mem_of_getElem? (i := 120) rfl))
        | 2, _ => exact (hf _ (List.mem_of_getElem? (i := 121) rfl))
        | 3, _ => exact (hf _ (List.mem_of_getElem? (i := 122) rfl))
        | 4, _ => exact (hf _ (List.mem_of_getElem? (i := 123) rfl))
        | j + 5, h => omega
      | 6, _ =>
        have hj : j < 3 := hj
        match j, hj with
        | 0, _ => exact (hf _ (List.mem_of_getElem? (i := 133) rfl))
        | 1, _ => exact (hf _ (List.mem_of_getElem? (i := 134) rfl))
        | 2, _ => exact (hf _ (List.mem_of_getElem? (i := 135) rfl))
        | j + 3, h => omega
      | 7, _ =>
        have hj : j < 5 := hj
        match j, hj with
        | 0, _ => exact (hf _ (List.mem_of_getElem? (i := 146) rfl))
        | 1, _ => exact (hf _ (List.mem_of_getElem? (i := 147) rfl))
        | 2, _ => exact (hf _ (List.mem_of_getElem? (i := 148) rfl))
        | 3, _ => exact (hf _ (List.mem_of_getElem? (i := 149) rfl))
        | 4, _ => exact (hf _ (List.mem_of_getElem? (i := 150) rfl))
        | j + 5, h => omega
      | 8, _ =>
        have hj : j < 5 := hj
        match j, hj with
        | 0, _ => exact (hf _ (List.mem_of_getElem? (i := 162) rfl))
        | 1, _ => exact (hf _ (List.mem_of_getElem? (i := 163) rfl))
        | 2, _ => exact (hf _ (List.mem_of_getElem? (i := 164) rfl))
        | 3, _ => exact (hf _ (List.mem_of_getElem? (i := 165) rfl))
        | 4, _ => exact (hf _ (List.mem_of_getElem? (i := 166) rfl))
        | j + 5, h => omega
      | 9, _ =>
        have hj : j < 3 := hj
        match j, hj with
        | 0, _ => exact (hf _ (List.mem_of_getElem? (i := 179) rfl))
        | 1, _ => exact (hf _ (List.mem_of_getElem? (i := 180) rfl))
        | 2, _ => exact (hf _ (List.mem_of_getElem? (i := 181) rfl))
        | j + 3, h => omega
      | 10, _ =>
        have hj : j < 5 := hj
        match j, hj with
        | 0, _ => exact (hf _ (List.mem_of_getElem? (i := 195) rfl))
        | 1, _ => exact (hf _ (List.mem_of_getElem? (i := 196) rfl))
        | 2, _ => exact (hf _ (List.mem_of_getElem? (i := 197) rfl))
        | 3, _ => exact (hf _ (List.mem_of_getElem? (i := 198) rfl))
        | 4, _ => exact (hf _ (List.mem_of_getElem? (i := 199) rfl))
        | j + 5, h => omega
      | i + 11, h => omega)
    (fun i j hi hj hij => by
      match i, hi, j, hj, hij with
      | 0, _, 0, _, h => exact absurd rfl h
      | 0, _, 1, _, _ => exact Or.inl (hf _ (List.mem_of_getElem? (i := 81) rfl))
      | 0, _, 2, _, _ => exact Or.inl (hf _ (List.mem_of_getElem? (i := 90) rfl))
      | 0, _, 3, _, _ => exact Or.inl (hf _ (List.mem_of_getElem? (i := 100) rfl))
      | 0, _, 4, _, _ => exact Or.inl (hf _ (List.mem_of_getElem? (i := 111) rfl))
      | 0, _, 5, _, _ => exact Or.inl (hf _ (List.mem_of_getElem? (i := 124) rfl))
      | 0, _, 6, _, _ => exact Or.inl (hf _ (List.mem_of_getElem? (i := 136) rfl))
      | 0, _, 7, _, _ => exact Or.inl (hf _ (List.mem_of_getElem? (i := 151) rfl))
      | 0, _, 8, _, _ => exact Or.inl (hf _ (List.mem_of_getElem? (i := 167) rfl))
      | 0, _, 9, _, _ => exact Or.inl (hf _ (List.mem_of_getElem? (i := 182) rfl))
      | 0, _, 10, _, _ => exact Or.inl (hf _ (List.mem_of_getElem? (i := 200) rfl))
      | 1, _, 0, _, _ => exact Or.inr (hf _ (List.mem_of_getElem? (i := 81) rfl))
      | 1, _, 1, _, h => exact absurd rfl h
      | 1, _, 2, _, _ => exact Or.inl (hf _ (List.mem_of_getElem? (i := 91) rfl))
      | 1, _, 3, _, _ => exact Or.inl (hf _ (List.mem_of_getElem? (i := 101) rfl))
      | 1, _, 4, _, _ => exact Or.inl (hf _ (List.mem_of_getElem? (i := 112) rfl))
      | 1, _, 5, _, _ => exact Or.inl (hf _ (List.mem_of_getElem? (i := 125) rfl))
      | 1, _, 6, _, _ => exact Or.inl (hf _ (List.mem_of_getElem? (i := 137) rfl))
      | 1, _, 7, _, _ => exact Or.inl (hf _ (List.mem_of_getElem? (i := 152) rfl))
      | 1, _, 8, _, _ => exact Or.inl (hf _ (List.mem_of_getElem? (i := 168) rfl))
      | 1, _, 9, _, _ => exact Or.inl (hf _ (List.mem_of_getElem? (i := 183) rfl))
      | 1, _, 10, _, _ => exact Or.inl (hf _ (List.mem_of_getElem? (i := 201) rfl))
      | 2, _, 0, _, _ => exact Or.inr (hf _ (List.mem_of_getElem? (i := 90) rfl))
      | 2, _, 1, _, _ => exact Or.inr (hf _ (List.mem_of_getElem? (i := 91) rfl))
      | 2, _, 2, _, h => exact absurd rfl h
      | 2, _, 3, _, _ => exact Or.inl (hf _ (List.mem_of_getElem? (i := 102) rfl))
      | 2, _, 4, _, _ => exact Or.inl (hf _ (List.mem_of_getElem? (i := 113) rfl))
      | 2, _, 5, _, _ => exact Or.inl (hf _ (List.mem_of_getElem? (i := 126) rfl))
      | 2, _, 6, _, _ => exact Or.inl (hf _ (List.mem_of_getElem? (i := 138) rfl))
      | 2, _, 7, _, _ => exact Or.inl (hf _ (List.mem_of_getElem? (i := 153) rfl))
      | 2, _, 8, _, _ => exact Or.inl (hf _ (List.mem_of_getElem? (i := 169) rfl))
      | 2, _, 9, _, _ => exact Or.inl (hf _ (List.mem_of_getElem? (i := 184) rfl))
      | 2, _, 10, _, _ => exact Or.inl (hf _ (List.mem_of_getElem? (i := 202) rfl))
      | 3, _, 0, _, _ => exact Or.inr (hf _ (List.mem_of_getElem? (i := 100) rfl))
      | 3, _, 1, _, _ => exact Or.inr (hf _ (List.mem_of_getElem? (i := 101) rfl))
      | 3, _, 2, _, _ => exact Or.inr (hf _ (List.mem_of_getElem? (i := 102) rfl))
      | 3, _, 3, _, h => exact absurd rfl h
      | 3, _, 4, _, _ => exact Or.inl (hf _ (List.mem_of_getElem? (i := 114) rfl))
      | 3, _, 5, _, _ => exact Or.inl (hf _ (List.mem_of_getElem? (i := 127) rfl))
      | 3, _, 6, _, _ => exact Or.inl (hf _ (List.mem_of_getElem? (i := 139) rfl))
      | 3, _, 7, _, _ => exact Or.inl (hf _ (List.mem_of_getElem? (i := 154) rfl))
      | 3, _, 8, _, _ => exact Or.inl (hf _ (List.mem_of_getElem? (i := 170) rfl))
      | 3, _, 9, _, _ => exact Or.inl (hf _ (List.mem_of_getElem? (i := 185) rfl))
      | 3, _, 10, _, _ => exact Or.inl (hf _ (List.mem_of_getElem? (i := 203) rfl))
      | 4, _, 0, _, _ => exact Or.inr (hf _ (List.mem_of_getElem? (i := 111) rfl))
      | 4, _, 1, _, _ => exact Or.inr (hf _ (List.mem_of_getElem? (i := 112) rfl))
      | 4, _, 2, _, _ => exact Or.inr (hf _ (List.mem_of_getElem? (i := 113) rfl))
      | 4, _, 3, _, _ => exact Or.inr (hf _ (List.mem_of_getElem? (i := 114) rfl))
      | 4, _, 4, _, h => exact absurd rfl h
      | 4, _, 5, _, _ => exact Or.inl (hf _ (List.mem_of_getElem? (i := 128) rfl))
      | 4, _, 6, _, _ => exact Or.inl (hf _ (List.mem_of_getElem? (i := 140) rfl))
      | 4, _, 7, _, _ => exact Or.inl (hf _ (List.mem_of_getElem? (i := 155) rfl))
      | 4, _, 8, _, _ => exact Or.inl (hf _ (List.mem_of_getElem? (i := 171) rfl))
      | 4, _, 9, _, _ => exact Or.inl (hf _ (List.mem_of_getElem? (i := 186) rfl))
      | 4, _, 10, _, _ => exact Or.inl (hf _ (List.mem_of_getElem? (i := 204) rfl))
      | 5, _, 0, _, _ => exact Or.inr (hf _ (List.mem_of_getElem? (i := 124) rfl))
      | 5, _, 1, _, _ => exact Or.inr (hf _ (List.mem_of_getElem? (i := 125) rfl))
      | 5, _, 2, _, _ => exact Or.inr (hf _ (List.mem_of_getElem? (i := 126) rfl))
      | 5, _, 3, _, _ => exact Or.inr (hf _ (List.mem_of_getElem? (i := 127) rfl))
      | 5, _, 4, _, _ => exact Or.inr (hf _ (List.mem_of_getElem? (i := 128) rfl))
      | 5, _, 5, _, h => exact absurd rfl h
      | 5, _, 6, _, _ => exact Or.inl (hf _ (List.mem_of_getElem? (i := 141) rfl))
      | 5, _, 7, _, _ => exact Or.inl (hf _ (List.mem_of_getElem? (i := 156) rfl))
      | 5, _, 8, _, _ => exact Or.inl (hf _ (List.mem_of_getElem? (i := 172) rfl))
      | 5, _, 9, _, _ => exact Or.inl (hf _ (List.mem_of_getElem? (i := 187) rfl))
      | 5, _, 10, _, _ => exact Or.inl (hf _ (List.mem_of_getElem? (i := 205) rfl))
      | 6, _, 0, _, _ => exact Or.inr (hf _ (List.mem_of_getElem? (i := 136) rfl))
      | 6, _, 1, _, _ => exact Or.inr (hf _ (List.mem_of_getElem? (i := 137) rfl))
      | 6, _, 2, _, _ => exact Or.inr (hf _ (List.mem_of_getElem? (i := 138) rfl))
      | 6, _, 3, _, _ => exact Or.inr (hf _ (List.mem_of_getElem? (i := 139) rfl))
      | 6, _, 4, _, _ => exact Or.inr (hf _ (List.mem_of_getElem? (i := 140) rfl))
      | 6, _, 5, _, _ => exact Or.inr (hf _ (List.mem_of_getElem? (i := 141) rfl))
      | 6, _, 6, _, h => exact absurd rfl h
      | 6, _, 7, _, _ => exact Or.inl (hf _ (List.mem_of_getElem? (i := 157) rfl))
      | 6, _, 8, _, _ => exact Or.inl (hf _ (List.mem_of_getElem? (i := 173) rfl))
      | 6, _, 9, _, _ => exact Or.inl (hf _ (List.mem_of_getElem? (i := 188) rfl))
      | 6, _, 10, _, _ => exact Or.inl (hf _ (List.mem_of_getElem? (i := 206) rfl))
      | 7, _, 0, _, _ => exact Or.inr (hf _ (List.mem_of_getElem? (i := 151) rfl))
      | 7, _, 1, _, _ => exact Or.inr (hf _ (List.mem_of_getElem? (i := 152) rfl))
      | 7, _, 2, _, _ => exact Or.inr (hf _ (List.mem_of_getElem? (i := 153) rfl))
      | 7, _, 3, _, _ => exact Or.inr (hf _ (List.mem_of_getElem? (i := 154) rfl))
      | 7, _, 4, _, _ => exact Or.inr (hf _ (List.mem_of_getElem? (i := 155) rfl))
      | 7, _, 5, _, _ => exact Or.inr (hf _ (List.mem_of_getElem? (i := 156) rfl))
      | 7, _, 6, _, _ => exact Or.inr (hf _ (List.mem_of_getElem? (i := 157) rfl))
      | 7, _, 7, _, h => exact absurd rfl h
      | 7, _, 8, _, _ => exact Or.inl (hf _ (List.mem_of_getElem? (i := 174) rfl))
      | 7, _, 9, _, _ => exact Or.inl (hf _ (List.mem_of_getElem? (i := 189) rfl))
      | 7, _, 10, _, _ => exact Or.inl (hf _ (List.mem_of_getElem? (i := 207) rfl))
      | 8, _, 0, _, _ => exact Or.inr (hf _ (List.mem_of_getElem? (i := 167) rfl))
      | 8, _, 1, _, _ => exact Or.inr (hf _ (List.mem_of_getElem? (i := 168) rfl))
      | 8, _, 2, _, _ => exact Or.inr (hf _ (List.mem_of_getElem? (i := 169) rfl))
      | 8, _, 3, _, _ => exact Or.inr (hf _ (List.mem_of_getElem? (i := 170) rfl))
      | 8, _, 4, _, _ => exact Or.inr (hf _ (List.mem_of_getElem? (i := 171) rfl))
      | 8, _, 5, _, _ => exact Or.inr (hf _ (List.mem_of_getElem? (i := 172) rfl))
      | 8, _, 6, _, _ => exact Or.inr (hf _ (List.mem_of_getElem? (i := 173) rfl))
      | 8, _, 7, _, _ => exact Or.inr (hf _ (List.mem_of_getElem? (i := 174) rfl))
      | 8, _, 8, _, h => exact absurd rfl h
      | 8, _, 9, _, _ => exact Or.inl (hf _ (List.mem_of_getElem? (i := 190) rfl))
      | 8, _, 10, _, _ => exact Or.inl (hf _ (List.mem_of_getElem? (i := 208) rfl))
      | 9, _, 0, _, _ => exact Or.inr (hf _ (List.mem_of_getElem? (i := 182) rfl))
      | 9, _, 1, _, _ => exact Or.inr (hf _ (List.mem_of_getElem? (i := 183) rfl))
      | 9, _, 2, _, _ => exact Or.inr (hf _ (List.mem_of_getElem? (i := 184) rfl))
      | 9, _, 3, _, _ => exact Or.inr (hf _ (List.mem_of_getElem? (i := 185) rfl))
      | 9, _, 4, _, _ => exact Or.inr (hf _ (List.mem_of_getElem? (i := 186) rfl))
      | 9, _, 5, _, _ => exact Or.inr (hf _ (List.mem_of_getElem? (i := 187) rfl))
      | 9, _, 6, _, _ => exact Or.inr (hf _ (List.mem_of_getElem? (i := 188) rfl))
      | 9, _, 7, _, _ => exact Or.inr (hf _ (List.mem_of_getElem? (i := 189) rfl))
      | 9, _, 8, _, _ => exact Or.inr (hf _ (List.mem_of_getElem? (i := 190) rfl))
      | 9, _, 9, _, h => exact absurd rfl h
      | 9, _, 10, _, _ => exact Or.inl (hf _ (List.mem_of_getElem? (i := 209) rfl))
      | 10, _, 0, _, _ => exact Or.inr (hf _ (List.mem_of_getElem? (i := 200) rfl))
      | 10, _, 1, _, _ => exact Or.inr (hf _ (List.mem_of_getElem? (i := 201) rfl))
      | 10, _, 2, _, _ => exact Or.inr (hf _ (List.mem_of_getElem? (i := 202) rfl))
      | 10, _, 3, _, _ => exact Or.inr (hf _ (List.mem_of_getElem? (i := 203) rfl))
      | 10, _, 4, _, _ => exact Or.inr (hf _ (List.mem_of_getElem? (i := 204) rfl))
      | 10, _, 5, _, _ => exact Or.inr (hf _ (List.mem_of_getElem? (i := 205) rfl))
      | 10, _, 6, _, _ => exact Or.inr (hf _ (List.mem_of_getElem? (i := 206) rfl))
      | 10, _, 7, _, _ => exact Or.inr (hf _ (List.mem_of_getElem? (i := 207) rfl))
      | 10, _, 8, _, _ => exact Or.inr (hf _ (List.mem_of_getElem? (i := 208) rfl))
      | 10, _, 9, _, _ => exact Or.inr (hf _ (List.mem_of_getElem? (i := 209) rfl))
      | 10, _, 10, _, h => exact absurd rfl h
      | i + 11, h, _, _, _ => omega
      | _, _, j + 11, h, _ => omega)
    hA
  refine ⟨adK, adV, h1, fun n hn => ?_⟩
  have h3 := h2 n hn
  match n, hn with
  | 0, _ => exact vk_R.of (A := args) (hts _ (zq_4 (List.mem_of_getElem? (i := 105) rfl))) h3
  | 1, _ => exact vk_R.of (A := args) (hts _ (zq_4 (List.mem_of_getElem? (i := 158) rfl))) h3
  | 2, _ => exact vk_R.of (A := args) (hts _ (zq_4 (List.mem_of_getElem? (i := 159) rfl))) h3
  | 3, _ => exact vk_R.of (A := args) (hts _ (zq_4 (List.mem_of_getElem? (i := 160) rfl))) h3
  | 4, _ => exact vk_R.of (A := args) (hts _ (zq_4 (List.mem_of_getElem? (i := 161) rfl))) h3
  | 5, _ => exact vk_R.of (A := args) (hts _ (zq_4 (List.mem_of_getElem? (i := 166) rfl))) h3
  | 6, _ => exact vk_R.of (A := args) (hts _ (zq_4 (List.mem_of_getElem? (i := 171) rfl))) h3
  | 7, _ => exact vk_R.of (A := args) (hts _ (zq_4 (List.mem_of_getElem? (i := 172) rfl))) h3
  | 8, _ => exact vk_R.of (A := args) (hts _ (zq_4 (List.mem_of_getElem? (i := 173) rfl))) h3
  | 9, _ => exact vk_R.of (A := args) (hts _ (zq_4 (List.mem_of_getElem? (i := 186) rfl))) h3
  | 10, _ => exact vk_R.of (A := args) (hts _ (zq_4 (List.mem_of_getElem? (i := 191) rfl))) h3
  | n + 11, h => omega
theorem ss_cs {args : Array Value} {s : State} {A : Nat → Prop} (hf : ∀ c ∈ flatC (Jvm.Cond.and given_1 narrow_1), c.before args s = true) (hts : ∀ w ∈ lw_tbl, w.before args s = true) (hA : ∀ a : Nat, a < s.heap.size → ¬ A a) : va_Z "java/lang/String" "COMPACT_STRINGS" "Z" (.int 1) A s s.heap := va_Zof (hts _ (zq_4 (List.mem_of_getElem? (i := 119) rfl))) (hts _ (zq_1 (List.mem_of_getElem? (i := 17) rfl))) (eq_int (hf _ (List.mem_of_getElem? (i := 24) rfl))) hA
theorem ss_fm {args : Array Value} {s : State} {A : Nat → Prop} (hf : ∀ c ∈ flatC (Jvm.Cond.and given_1 narrow_1), c.before args s = true) (hts : ∀ w ∈ lw_tbl, w.before args s = true) (hA : ∀ a : Nat, a < s.heap.size → ¬ A a) : va_Zq "jdk/internal/util/Preconditions" "SIOOBE_FORMATTER" "Ljava/util/function/BiFunction;" A s s.heap := va_Zqof (hts _ (zq_4 (List.mem_of_getElem? (i := 135) rfl))) (hts _ (zq_1 (List.mem_of_getElem? (i := 19) rfl))) (hf _ (List.mem_of_getElem? (i := 25) rfl)) hA
theorem ist_11 : Cond.instantiable (zRt 11) (zof 11) ∈ zt := zt_of (zq_1 (List.mem_of_getElem? (i := 23) rfl)) rfl
theorem ini_11 : Cond.initialized (zRt 11) ∈ zt := zt_of (zq_1 (List.mem_of_getElem? (i := 1) rfl)) rfl
theorem lkL_11 : Cond.classLink R_law 7 (zRt 11) ∈ zt := zt_of (zq_1 (List.mem_of_getElem? (i := 22) rfl)) rfl
theorem cwLi_11 : zcw R_law 9 yX11_init cX11_init 1 none 0 := ⟨zt_of (zq_1 (List.mem_of_getElem? (i := 24) rfl)) rfl, zt_of (zq_1 (List.mem_of_getElem? (i := 26) rfl)) rfl, zt_of (zq_1 (List.mem_of_getElem? (i := 1) rfl)) rfl, by decide +kernel, by decide +kernel⟩
theorem inLi_11 : Cond.instanceMethod yX11_init ∈ zt := zt_of (zq_1 (List.mem_of_getElem? (i := 25) rfl)) rfl
theorem ist_12 : Cond.instantiable (zRt 12) (zof 12) ∈ zt := zt_of (zq_6 (List.mem_of_getElem? (i := 153) rfl)) rfl
theorem ini_12 : Cond.initialized (zRt 12) ∈ zt := zt_of (zq_1 (List.mem_of_getElem? (i := 14) rfl)) rfl
theorem lkL_12 : Cond.classLink R_law 10 (zRt 12) ∈ zt := zt_of (zq_6 (List.mem_of_getElem? (i := 152) rfl)) rfl
theorem cwLi_12 : zcw R_law 12 yX12_init cX12_init 2 none 0 := ⟨zt_of (zq_6 (List.mem_of_getElem? (i := 154) rfl)) rfl, zt_of (zq_6 (List.mem_of_getElem? (i := 156) rfl)) rfl, zt_of (zq_1 (List.mem_of_getElem? (i := 14) rfl)) rfl, by decide +kernel, by decide +kernel⟩
theorem inLi_12 : Cond.instanceMethod yX12_init ∈ zt := zt_of (zq_6 (List.mem_of_getElem? (i := 155) rfl)) rfl
theorem ss_aI : Cond.arrayClass .int ∈ lw_tbl := (zt_in acl_0).1
theorem ss_aZ : Cond.arrayClass .boolean ∈ lw_tbl := (zt_in acl_1).1
theorem ss_oB {args : Array Value} {s : State} (hts : ∀ w ∈ lw_tbl, w.before args s = true) : va_AO "EarField$Box" s := va_AO.of (hts _ (zq_1 (List.mem_of_getElem? (i := 37) rfl)))
theorem ss_oS {args : Array Value} {s : State} (hts : ∀ w ∈ lw_tbl, w.before args s = true) : va_AO "EarField$Sum" s := va_AO.of (hts _ (zq_1 (List.mem_of_getElem? (i := 82) rfl)))
