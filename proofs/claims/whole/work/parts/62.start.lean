/-! ===== the start; calls that set a number ===== -/
set_option maxRecDepth 1000000 in
theorem S0_men : ∀ k, k < 864 → prj S0 3 k = 0 := by decide +kernel
set_option maxRecDepth 1000000 in
theorem S0_nF : nF (prj S0) = 0 := by decide +kernel
set_option maxRecDepth 1000000 in
theorem S0_nums : (∀ k, k < 768 → prj S0 124 (5 + k) = prj S0 3 (96 + k)) ∧ (∀ k, k < 600 → prj S0 129 k = prj S0 6 k) ∧ (∀ k, k < 8 → prj S0 146 k = prj S0 23 k) ∧ (∀ k, k < 8 → prj S0 147 k = prj S0 25 k) ∧ (∀ k, k < 7 → prj S0 148 k = prj S0 27 k) ∧ (∀ k, k < 12 → prj S0 153 k = prj S0 29 k) ∧ (∀ k, k < 7 → prj S0 154 k = prj S0 31 k) ∧ (∀ k, k < 8 → prj S0 157 k = prj S0 33 k) ∧ (∀ k, k < 10 → prj S0 159 k = prj S0 35 k) ∧ (∀ k, k < 9 → prj S0 162 k = 0 ∧ prj S0 36 k = 0) ∧ (∀ k, k < 170 → prj S0 131 k = wrdT.getD k 0) := by decide +kernel
set_option maxRecDepth 1000000 in
theorem S0_ones : prj S0 2 2 = nI 0 ∧ prj S0 123 6 = nI 0 ∧ prj S0 124 4 = prj S0 2 3 ∧ prj S0 124 3 = prj S0 2 4 ∧ prj S0 124 0 = prj S0 2 5 ∧ prj S0 124 1 = prj S0 2 6 ∧ prj S0 5 1 = nI 0 ∧ prj S0 124 2 = nI 0 ∧ prj S0 7 6 = nI 0 ∧ prj S0 132 0 = nI 0 ∧ prj S0 15 1 = nI 0 ∧ prj S0 123 33 = nI 0 ∧ prj S0 17 1 = nI 0 ∧ prj S0 123 35 = nI 0 ∧ prj S0 19 1 = nI 0 ∧ prj S0 123 37 = nI 0 := by decide +kernel
set_option maxRecDepth 1000000 in
theorem S0_told : prj S0 22 1 = nI 0 ∧ prj S0 24 1 = nI 0 ∧ prj S0 123 43 = nI 0 ∧ prj S0 26 1 = nI 0 ∧ prj S0 123 46 = nI 0 ∧ prj S0 28 1 = nI 0 ∧ prj S0 123 55 = nI 0 ∧ prj S0 30 1 = nI 0 ∧ prj S0 123 57 = nI 0 ∧ prj S0 32 1 = nI 0 ∧ prj S0 123 61 = nI 0 ∧ prj S0 34 1 = nI 0 ∧ prj S0 123 64 = nI 0 ∧ prj S0 21 7 = nI 1234567 ∧ prj S0 123 51 = prj S0 21 7 - 1234567 ∧ (∀ v, v < 8 → ∃ i, i < 8 ∧ 1234567 / 10 ^ i % 10 = v) := by decide +kernel
set_option maxRecDepth 1000000 in
theorem S0_rest : prj S0 123 70 = prj S0 0 2 ∧ prj S0 0 2 = 0 ∧ prj S0 0 6 = nI 0 ∧ prj S0 123 3 = nI 0 ∧ prj S0 0 5 = nI 0 ∧ prj S0 0 8 = nI 0 ∧ prj S0 123 11 = nI 0 ∧ prj S0 123 31 = prj S0 0 10 ∧ prj S0 123 32 = prj S0 0 11 ∧ prj S0 123 5 = 0 ∧ prj S0 123 41 = 0 := by decide +kernel
theorem inv0 : Inv S0 := by
  obtain ⟨a1, a2, a3, a4, a5, a6, a7, a8, a9, a10, a11⟩ := S0_nums
  obtain ⟨o1, o2, o3, o4, o5, o6, o7, o8, o9, o10, o11, o12, o13, o14, o15, o16⟩ := S0_ones
  obtain ⟨t1, t2, t3, t4, t5, t6, t7, t8, t9, t10, t11, t12, t13, t14, t15, t16⟩ := S0_told
  obtain ⟨r1, r2, r3, r4, r5, r6, r7, r8, r9, r10, r11⟩ := S0_rest
  have hn : ∀ f, ¬ f < nF (prj S0) := fun f h => by rw [S0_nF] at h; omega
  refine ⟨⟨⟨?_, ?_, ?_, fun f h => absurd h (hn f), fun f i h => absurd h.1 (hn f)⟩, ⟨a1, fun t j ht hj _ => S0_men _ (by omega), fun j hj => ⟨⟨0, by decide, S0_men _ (by omega)⟩, ⟨0, by decide, S0_men _ (by omega)⟩⟩, o3, o4, o5, o6⟩, ⟨⟨0, by decide, o7, o8⟩, a2⟩, ⟨0, by decide, o9, o10, fun l h => absurd h (Nat.not_lt_zero l)⟩, ⟨0, by decide, o11, o12, fun l h => absurd h (Nat.not_lt_zero l)⟩, ⟨0, by decide, o13, o14, fun l h => absurd h (Nat.not_lt_zero l)⟩, ⟨0, by decide, o15, o16, fun l h => absurd h (Nat.not_lt_zero l)⟩, ?_⟩, ⟨r1, Or.inl r2⟩, ⟨0, 0, by decide, by decide, r3, r4, r5, fun j h => absurd h (Nat.not_lt_zero j)⟩, ⟨⟨0, by decide, r6, r7, fun k h => absurd h (Nat.not_lt_zero k)⟩, r8, r9, r10, r11, a11⟩⟩
  · rw [S0_nF]; decide
  · rw [S0_nF]; exact o1
  · rw [S0_nF]; exact o2
  · refine ⟨⟨0, by decide, t1, t3, a3, fun k h => absurd h (Nat.not_lt_zero k)⟩, ⟨0, by decide, t2, t3, a4, fun k h => absurd h (Nat.not_lt_zero k)⟩, ⟨0, by decide, t4, t5, a5, fun k h => absurd h (Nat.not_lt_zero k)⟩, ⟨0, by decide, t6, t7, a6, fun k h => absurd h (Nat.not_lt_zero k)⟩, ⟨0, by decide, t8, t9, a7, fun k h => absurd h (Nat.not_lt_zero k)⟩, ⟨0, by decide, t10, t11, a8, fun k h => absurd h (Nat.not_lt_zero k)⟩, ⟨0, by decide, t12, t13, a9, fun k h => absurd h (Nat.not_lt_zero k)⟩, ⟨⟨1234567, by decide, t14, t16⟩, t15⟩, fun k hk => ⟨(a10 k hk).1.trans (a10 k hk).2.symm, 0, by decide, by decide, (a10 k hk).2⟩⟩
theorem g_state (v : Int32) : Good Inv (F_C_state v) (F_R_state v) := by
  intro s h
  obtain ⟨⟨hHS, hHM, hBR, hLw, hOr, hVi, hDo, hTR⟩, hKR, hUR, hMR⟩ := h
  obtain ⟨u, x, hu, hx, e6, e3, e5, hrow⟩ := hUR
  obtain ⟨m1, m2, m3, m4, m5, m6, m7⟩ := hHM
  refine ⟨s 2 6, mw (mw s 2 6 v) 0 6 0, mw (mw (mw (mw (mw s 2 6 v) 0 6 0) 123 0 0) 124 1 v) 123 3 0, ?_, ?_, ?_⟩
  · simp only [F_C_state, F_C_forgetDeeds, Option.bind_some]
  · have e1 : ∀ t : Mem, ld t 124 1 = some (t 124 1) := fun t => ld_in (k := 1) rfl (by decide) (by decide)
    have e2 : ∀ t : Mem, sd t 124 1 v = some (mw t 124 1 v) := fun t => sd_in (k := 1) rfl (by decide) (by decide)
    simp only [F_R_state, e1, e2, Option.bind_some]
    have e4 : s 124 1 = s 2 6 := m7
    rw [← e4]
    rfl
  · exact ⟨⟨hHS, ⟨fun k hk => Eq.trans (show mw s 124 1 v 124 (5 + k) = s 124 (5 + k) by simp [mw]; omega) (m1 k hk), m2, m3, m4, m5, m6, rfl⟩, hBR, hLw, hOr, hVi, hDo, hTR⟩, hKR, ⟨0, x, by decide, hx, rfl, rfl, e5, fun j hj => absurd hj (Nat.not_lt_zero j)⟩, hMR⟩
