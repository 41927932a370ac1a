/-! both at the start -/
theorem st_c2 : ∀ b : Nat, b < 10 → cg cM0 2 b 0 = nI b ∧ cg cM0 2 b 1 = 0 ∧ cg cM0 2 b 2 = 0 ∧ cg cM0 2 b 3 = 1 ∧ cg cM0 2 b 4 = 1 ∧ cg cM0 2 b 5 = 0 ∧ cg cM0 2 b 6 = 0 ∧ cg cM0 2 b 7 = -1 ∧ cg cM0 2 b 8 = -1 ∧ cg cM0 2 b 9 = 0 ∧ cg cM0 2 b 10 = 16 ∧ cg cM0 2 b 11 = 36 ∧ cg cM0 2 b 14 = 0 ∧ cg cM0 2 b 16 = 0 ∧ cg cM0 2 b 18 = 0 ∧ cg cM0 8 b 2 = 0 := by decide +kernel
theorem st_r2 : ∀ b : Nat, b < 10 → rg rM0 1301 0 b = 0 ∧ rg rM0 1302 0 b = 0 ∧ rg rM0 1305 0 b = 0 ∧ rg rM0 1306 0 b = 0 ∧ rg rM0 1307 0 b = 0 ∧ rg rM0 1345 0 b = 16 ∧ rg rM0 1358 0 b = 36 ∧ rg rM0 1314 0 b = 0 ∧ rg rM0 1317 0 b = 0 ∧ rg rM0 1362 0 b = 0 ∧ rg rM0 1366 0 b = 0 := by decide +kernel
theorem st_c0 : cg cM0 3 0 4 = 0 ∧ cg cM0 3 0 5 = 0 ∧ cg cM0 10 0 1 = 0 ∧ cg cM0 7 1 1 = 0 ∧ cg cM0 1 0 6 = 0 ∧ cg cM0 6 0 1 = 0 ∧ cg cM0 6 0 2 = 0 ∧ cg cM0 6 0 3 = 0 ∧ cg cM0 4 0 1 = 4 ∧ cg cM0 4 0 2 = 0 ∧ cg cM0 0 0 6 = 0 ∧ cg cM0 0 0 5 = 0 := by decide +kernel
theorem st_r0 : rg rM0 12 0 0 = 0 ∧ rg rM0 12 0 13 = 0 ∧ rg rM0 12 0 28 = 0 ∧ rg rM0 12 0 40 = 0 ∧ rg rM0 12 0 51 = 0 ∧ rg rM0 12 0 59 = 0 ∧ rg rM0 12 0 60 = 0 ∧ rg rM0 12 0 61 = 0 ∧ rg rM0 12 0 67 = 4 ∧ rg rM0 12 0 71 = 0 ∧ rg rM0 12 0 18 = 0 ∧ rg rM0 12 0 20 = 0 := by decide +kernel
theorem st_set : ∀ j : Nat, j < 7 → cg cM0 401 0 j = rg rM0 1312 0 j ∧ 0 ≤ rg rM0 1312 0 j ∧ zsv 0 j ≤ rg rM0 1312 0 j ∧ rg rM0 1312 0 j ≤ zsv 1 j := by decide +kernel
theorem st_312 : ∀ b : Nat, b < 10 → ∀ j : Nat, j < 24 → cg cM0 312 b j = 16 := by decide +kernel
theorem st_1344 : ∀ j : Nat, j < 240 → rg rM0 1344 0 j = 16 := by decide +kernel
theorem st_9 : ∀ i : Nat, i < 51 → ∀ s : Nat, s < 5 → cg cM0 9 i s = 0 := by decide +kernel
theorem st_1316 : ∀ j : Nat, j < 55 → rg rM0 1316 0 j = 0 := by decide +kernel
theorem st_317 : ∀ b : Nat, b < 10 → ∀ p : Nat, p < 8 → cg cM0 317 b p = 0 := by decide +kernel
theorem st_1364 : ∀ j : Nat, j < 80 → rg rM0 1364 0 j = 0 := by decide +kernel
theorem st_c4 : ∀ e : Nat, e < 6 → cg cM0 503 0 e = 0 ∧ rg rM0 1369 0 e = 0 ∧ cg cM0 505 0 e = 0 ∧ rg rM0 1368 0 e = 0 := by decide +kernel
theorem st_504 : ∀ j : Nat, j < 30 → cg cM0 504 0 j = 2 ∧ rg rM0 1370 0 j = 2 := by decide +kernel
theorem st_103 : ∀ j : Nat, j < 12 → cg cM0 103 0 j = 0 ∧ rg rM0 1319 0 j = 0 ∧ cg cM0 104 0 j = 0 ∧ rg rM0 1321 0 j = 0 := by decide +kernel
theorem st_cp (b k : Nat) : cp cM0 901 b k = 10 + 4 * b + k := rfl
theorem st_cp4 : cp cM0 4 0 8 = 0 ∧ cp cM0 4 0 9 = 1 := ⟨rfl, rfl⟩
theorem rel_0 : eRel 0 cM0 rM0 := by
  obtain ⟨c1, c2, c3, c4, c5, c6, c7, c8, c9, c10, c11, c12⟩ := st_c0
  obtain ⟨r1, r2, r3, r4, r5, r6, r7, r8, r9, r10, r11, r12⟩ := st_r0
  have hq : ∀ b, b < 10 → eM3 cM0 b = 0 := fun b hb => by
    obtain ⟨-, -, -, -, -, -, -, -, -, -, -, -, -, -, -, z⟩ := st_c2 b hb
    unfold eM3; rw [z]; rfl
  refine ⟨0, 0, by omega, by omega, ⟨c1, r1, c2, r2, st_set⟩, ⟨fun b hb => ?_, fun b j hb hj => ?_, fun b hb => absurd hb (by omega), fun b hb _ => ?_⟩, ⟨fun b hb => absurd hb (by omega), fun b hb _ => ?_⟩, ⟨fun b hb => ?_, ⟨fun b k hb hk => ?_, fun b k l hb hkl hl => ?_⟩, fun b s hb hs => ?_, fun s hs => ?_, st_9 0 (by omega) 2 (by omega), fun b hb => ?_, fun b hb _ => ?_, fun i hi => ?_, ?_⟩, ⟨0, by omega, c3, r3, fun j hj => absurd hj (by omega)⟩, .inl ⟨r4, c4⟩, ⟨0, by omega, c5, r5, fun i hi => absurd hi (by omega)⟩, ⟨⟨0, 0, by omega, by omega, Iff.rfl, c6, r6, c7, r7, by rw [c8, r8]⟩, fun b hb => ?_, fun b p hb hp => ?_⟩, ⟨⟨4, by omega, by omega, c9, r9⟩, ⟨by rw [c10, r10], by rw [r10]; decide, by rw [r10]; decide⟩, fun e he => ?_, fun j hj => ?_, fun a ha => ?_, .inl st_cp4⟩, ⟨by rw [c11, r11], fun j hj => ?_, ⟨0, by omega, c12, r12⟩, fun i hi => ?_⟩⟩
  · obtain ⟨a0, a1, a2, a3, a4, a5, a6, a7, a8, a9, a10, a11, a12, a13, a14, a15⟩ := st_c2 b hb
    obtain ⟨b1, b2, b3, b4, b5, b6, b7, b8, b9, b10, b11⟩ := st_r2 b hb
    refine ⟨a0, by rw [a1, b1], ⟨by rw [a2, b2], by rw [b2]; decide, by rw [b2]; decide⟩, by rw [a5, b3], by rw [a6, b4], ⟨by rw [a9, b5], fun j _ => by rw [b5]; exact eb_0 j⟩, ⟨by rw [a10, b6], by rw [b6]; decide, by rw [b6]; decide⟩, by rw [a11, b7], by rw [b7]; decide, by rw [b7]; decide⟩
  · have h1 := st_312 b hb j hj
    have h2 := st_1344 (24 * b + j) (by omega)
    exact ⟨by rw [h1, h2], by rw [h2]; decide, by rw [h2]; decide⟩
  · obtain ⟨a0, a1, a2, a3, a4, a5, a6, a7, a8, a9, a10, a11, a12, a13, a14, a15⟩ := st_c2 b hb
    exact ⟨a3, a4⟩
  · obtain ⟨a0, a1, a2, a3, a4, a5, a6, a7, a8, a9, a10, a11, a12, a13, a14, a15⟩ := st_c2 b hb
    exact ⟨a7, a8⟩
  · obtain ⟨a0, a1, a2, a3, a4, a5, a6, a7, a8, a9, a10, a11, a12, a13, a14, a15⟩ := st_c2 b hb
    obtain ⟨b1, b2, b3, b4, b5, b6, b7, b8, b9, b10, b11⟩ := st_r2 b hb
    exact ⟨0, by omega, a15, b8, fun k hk => absurd hk (by omega)⟩
  · rw [st_cp]; omega
  · rw [st_cp, st_cp]; omega
  · rw [st_9 b (by omega) s hs, st_1316 (5 * b + s) (by omega)]
  · rw [st_9 50 (by omega) s hs, st_1316 (50 + s) (by omega)]
  · obtain ⟨a0, a1, a2, a3, a4, a5, a6, a7, a8, a9, a10, a11, a12, a13, a14, a15⟩ := st_c2 b hb
    obtain ⟨b1, b2, b3, b4, b5, b6, b7, b8, b9, b10, b11⟩ := st_r2 b hb
    exact ⟨by rw [a12, b9], .inl b9⟩
  · obtain ⟨a0, a1, a2, a3, a4, a5, a6, a7, a8, a9, a10, a11, a12, a13, a14, a15⟩ := st_c2 b hb
    exact ⟨a15, a12, fun s hs => st_9 b (by omega) s hs⟩
  · exact eSm_0 (st_9 i hi 2 (by omega)) (st_9 i hi 3 (by omega)) (st_9 i hi 4 (by omega))
  · rw [eMs_0 (fun b hb => st_9 b (by omega) 2 (by omega)) hq (st_9 50 (by omega) 2 (by omega))]; omega
  · obtain ⟨a0, a1, a2, a3, a4, a5, a6, a7, a8, a9, a10, a11, a12, a13, a14, a15⟩ := st_c2 b hb
    obtain ⟨b1, b2, b3, b4, b5, b6, b7, b8, b9, b10, b11⟩ := st_r2 b hb
    exact ⟨by rw [a13, b10], by rw [a14, b11], fun _ => b10⟩
  · have h2 := st_1364 (8 * b + p) (by omega)
    exact ⟨by rw [st_317 b hb p hp, h2], by rw [h2]; decide, by rw [h2]; decide⟩
  · obtain ⟨h1, h2, -, -⟩ := st_c4 e he
    exact ⟨by rw [h1, h2], by rw [h2]; decide, by rw [h2]; decide⟩
  · obtain ⟨h1, h2⟩ := st_504 j hj
    exact ⟨by rw [h1, h2], .inr (.inr h2)⟩
  · obtain ⟨-, -, h1, h2⟩ := st_c4 a ha
    refine ⟨by rw [h1, h2], fun b hb => ?_⟩
    obtain ⟨-, -, -, h3⟩ := st_c4 b hb
    rw [h2, h3, eb_0, eb_0]
  · obtain ⟨h1, h2, -, -⟩ := st_103 j (by omega)
    rw [h1, h2]
  · obtain ⟨-, -, h1, h2⟩ := st_103 i hi
    rw [h1, h2]
