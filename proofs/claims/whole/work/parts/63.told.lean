theorem mw_n {s : Mem} {c k b : Nat} {v : Int32} (h : b ≠ k) : mw s c k v c b = s c b := by
  simp [mw, h]
theorem mw_y {s : Mem} {c k : Nat} {v : Int32} : mw s c k v c k = v := by
  simp [mw]
theorem inN_of {x : Int32} {lo hi : Nat} (hlo : lo < 2 ^ 31) (hh : hi < 2 ^ 31) (h : nI lo ≤ x ∧ x ≤ nI hi) : inN lo hi x := by
  obtain ⟨h1, h2⟩ := h
  rw [fa_le] at h1 h2
  rw [nI_toInt hh] at h2
  by_cases hl : lo < 2 ^ 31
  · rw [nI_toInt hl] at h1
    exact ⟨x.toInt.toNat, by omega, by omega, n_of (by omega)⟩
  · exact absurd hlo hl
theorem W_tell {o c len : Nat} (hk : kd o = 11) (hr : rf o 0 = c) (hc : kd c = 1) (hl : ln c = len) (hlen : len < 2 ^ 31) (h0 : 0 < len) (hoc : o ≠ c) (x lo hi : Int32) (s : Mem) {n : Nat} (hn : n ≤ len) (e : s o 1 = nI n) : F_W_tell o x lo hi s = if x = -1 then some (0, mw s o 1 0) else if lo ≤ x ∧ x ≤ hi then (if n < len then some (nI (n + 1), mw (mw s c n x) o 1 (nI (n + 1))) else some (-1, s)) else some (-1, s) := by
  unfold F_W_tell
  by_cases h1 : x = -1
  · rw [if_pos h1, if_pos h1, hk]
    simp only [F_W_clear, hk, show Nat.beq 11 11 = true from rfl, cond_true, Option.bind_some]
  · rw [if_neg h1, if_neg h1, C_within]
    simp only [Option.bind_some, b01]
    by_cases h2 : lo ≤ x ∧ x ≤ hi
    · rw [if_pos h2]
      simp only [h2, and_self, not_true_eq_false, if_false, hk, show Nat.beq 11 11 = true from rfl, cond_true, F_W_add, hr, hc, hl, show Nat.beq 1 1 = true from rfl, Bool.true_or, e]
      have e1 : nI len - 1 = nI (len - 1) := n_sub (b := 1) h0
      rw [C_within]
      simp only [Option.bind_some, b01, e1]
      have e2 : (0 ≤ nI n ∧ nI n ≤ nI (len - 1)) ↔ n < len := by
        rw [nI_leI (show n < 2 ^ 31 by omega) (show len - 1 < 2 ^ 31 by omega)]
        constructor
        · intro h; omega
        · intro h; exact ⟨nI_pos' (by omega), by omega⟩
      by_cases h3 : n < len
      · rw [if_neg (by rw [e2]; exact fun q => q h3), if_pos h3, e, sd_in hc (by rw [hl]; exact h3) (by rw [hl]; exact hlen)]
        simp only [Option.bind_some]
        have e3 : mw s c n x o 1 = nI n := by rw [mw_o hoc, e]
        rw [e3, nI_1]
        rw [mw_y]
      · rw [if_pos (by rw [e2]; exact h3), if_neg h3]
        rfl
    · rw [if_neg h2, if_pos h2]
theorem g_calls (v : Int32) : Good Inv (F_C_calls v) (F_R_calls v) := by
  intro s h
  obtain ⟨⟨hHS, hHM, hBR, hLw, hOr, hVi, hDo, ⟨hT0, hT1, hT2, hT3, hT4, hT5, hT6, hT7, hT8⟩⟩, hKR, hUR, hMR⟩ := id h
  obtain ⟨n, hn, e1, e2, e3, e4⟩ := hT3
  have e1 : s 28 1 = nI n := e1
  have e2 : s 123 55 = nI n := e2
  have hc := W_tell (o := 28) (c := 29) (len := 12) rfl rfl rfl rfl (by decide) (by decide) (by decide) v 0 15 s hn e1
  by_cases h1 : v = -1
  · rw [if_pos h1] at hc
    refine ⟨0, mw s 28 1 0, mw (mw (mw s 28 1 0) 123 0 0) 123 55 0, ?_, ?_, ?_⟩
    · simp only [F_C_calls, hc, Option.bind_some]
    · simp only [F_R_calls, if_pos h1]
    · exact ⟨⟨hHS, hHM, hBR, hLw, hOr, hVi, hDo, ⟨hT0, hT1, hT2, ⟨0, Nat.zero_le _, rfl, rfl, e3, fun k hk => absurd hk (Nat.not_lt_zero k)⟩, hT4, hT5, hT6, hT7, hT8⟩⟩, hKR, hUR, hMR⟩
  rw [if_neg h1] at hc
  by_cases h2 : 0 ≤ v ∧ v ≤ 15
  · rw [if_pos h2] at hc
    by_cases h3 : n < 12
    · rw [if_pos h3] at hc
      refine ⟨nI (n + 1), mw (mw s 29 n v) 28 1 (nI (n + 1)), mw (mw (mw (mw (mw s 29 n v) 28 1 (nI (n + 1))) 123 0 0) 153 n v) 123 55 (nI (n + 1)), ?_, ?_, ?_⟩
      · simp only [F_C_calls, hc, Option.bind_some]
      · have e5 : ¬ nI n = 12 := fun q => absurd ((nI_eq (show n < 2 ^ 31 by omega) (show 12 < 2 ^ 31 by decide)).mp q) (by omega)
        have e6 : (mw (mw (mw s 29 n v) 28 1 (nI (n + 1))) 123 0 0) 123 55 = nI n := e2
        simp only [F_R_calls, if_neg h1, R_isIn, Option.bind_some, b01, h2, and_self, not_true_eq_false, if_false, e6, if_neg e5]
        rw [sd_in (c := 153) rfl h3 (by decide)]
        simp only [Option.bind_some]
        have e7 : (mw (mw (mw (mw s 29 n v) 28 1 (nI (n + 1))) 123 0 0) 153 n v) 123 55 = nI n := e2
        rw [e7, nI_1]
        rfl
      · refine ⟨⟨hHS, hHM, hBR, hLw, hOr, hVi, hDo, ⟨hT0, hT1, hT2, ⟨n + 1, h3, rfl, rfl, fun k hk => ?_, fun k hk => ?_⟩, hT4, hT5, hT6, hT7, hT8⟩⟩, hKR, hUR, hMR⟩
        · show mw s 153 n v 153 k = mw s 29 n v 29 k
          by_cases q : k = n
          · rw [q, mw_y, mw_y]
          · rw [mw_n q, mw_n q]; exact e3 k hk
        · show inN 0 15 (mw s 29 n v 29 k)
          by_cases q : k = n
          · rw [q, mw_y]; exact inN_of (by decide) (by decide) h2
          · rw [mw_n q]; exact e4 k (by omega)
    · rw [if_neg h3] at hc
      refine ⟨-1, s, mw s 123 0 0, ?_, ?_, Inv_t h⟩
      · simp only [F_C_calls, hc, Option.bind_some]
      · have e5 : nI n = 12 := by rw [show n = 12 by omega]; rfl
        have e6 : (mw s 123 0 0) 123 55 = nI n := e2
        simp only [F_R_calls, if_neg h1, R_isIn, Option.bind_some, b01, h2, and_self, not_true_eq_false, if_false, e6, if_pos e5]
  · rw [if_neg h2] at hc
    refine ⟨-1, s, mw s 123 0 0, ?_, ?_, Inv_t h⟩
    · simp only [F_C_calls, hc, Option.bind_some]
    · simp only [F_R_calls, if_neg h1, R_isIn, Option.bind_some, b01, h2, not_false_eq_true, if_true]
theorem g_length (v : Int32) : Good Inv (F_C_length v) (F_R_length v) := by
  intro s h
  obtain ⟨⟨hHS, hHM, hBR, hLw, hOr, hVi, hDo, ⟨hT0, hT1, hT2, hT3, hT4, hT5, hT6, hT7, hT8⟩⟩, hKR, hUR, hMR⟩ := id h
  obtain ⟨n, hn, e1, e2, e3, e4⟩ := hT4
  have e1 : s 30 1 = nI n := e1
  have e2 : s 123 57 = nI n := e2
  have hc := W_tell (o := 30) (c := 31) (len := 7) rfl rfl rfl rfl (by decide) (by decide) (by decide) v 1 60 s hn e1
  by_cases h1 : v = -1
  · rw [if_pos h1] at hc
    refine ⟨0, mw s 30 1 0, mw (mw (mw s 30 1 0) 123 0 0) 123 57 0, ?_, ?_, ?_⟩
    · simp only [F_C_length, hc, Option.bind_some]
    · simp only [F_R_length, if_pos h1]
    · exact ⟨⟨hHS, hHM, hBR, hLw, hOr, hVi, hDo, ⟨hT0, hT1, hT2, hT3, ⟨0, Nat.zero_le _, rfl, rfl, e3, fun k hk => absurd hk (Nat.not_lt_zero k)⟩, hT5, hT6, hT7, hT8⟩⟩, hKR, hUR, hMR⟩
  rw [if_neg h1] at hc
  by_cases h2 : 1 ≤ v ∧ v ≤ 60
  · rw [if_pos h2] at hc
    by_cases h3 : n < 7
    · rw [if_pos h3] at hc
      refine ⟨nI (n + 1), mw (mw s 31 n v) 30 1 (nI (n + 1)), mw (mw (mw (mw (mw s 31 n v) 30 1 (nI (n + 1))) 123 0 0) 154 n v) 123 57 (nI (n + 1)), ?_, ?_, ?_⟩
      · simp only [F_C_length, hc, Option.bind_some]
      · have e5 : ¬ nI n = 7 := fun q => absurd ((nI_eq (show n < 2 ^ 31 by omega) (show 7 < 2 ^ 31 by decide)).mp q) (by omega)
        have e6 : (mw (mw (mw s 31 n v) 30 1 (nI (n + 1))) 123 0 0) 123 57 = nI n := e2
        simp only [F_R_length, if_neg h1, R_isIn, Option.bind_some, b01, h2, and_self, not_true_eq_false, if_false, e6, if_neg e5]
        rw [sd_in (c := 154) rfl h3 (by decide)]
        simp only [Option.bind_some]
        have e7 : (mw (mw (mw (mw s 31 n v) 30 1 (nI (n + 1))) 123 0 0) 154 n v) 123 57 = nI n := e2
        rw [e7, nI_1]
        rfl
      · refine ⟨⟨hHS, hHM, hBR, hLw, hOr, hVi, hDo, ⟨hT0, hT1, hT2, hT3, ⟨n + 1, h3, rfl, rfl, fun k hk => ?_, fun k hk => ?_⟩, hT5, hT6, hT7, hT8⟩⟩, hKR, hUR, hMR⟩
        · show mw s 154 n v 154 k = mw s 31 n v 31 k
          by_cases q : k = n
          · rw [q, mw_y, mw_y]
          · rw [mw_n q, mw_n q]; exact e3 k hk
        · show inN 1 60 (mw s 31 n v 31 k)
          by_cases q : k = n
          · rw [q, mw_y]; exact inN_of (by decide) (by decide) h2
          · rw [mw_n q]; exact e4 k (by omega)
    · rw [if_neg h3] at hc
      refine ⟨-1, s, mw s 123 0 0, ?_, ?_, Inv_t h⟩
      · simp only [F_C_length, hc, Option.bind_some]
      · have e5 : nI n = 7 := by rw [show n = 7 by omega]; rfl
        have e6 : (mw s 123 0 0) 123 57 = nI n := e2
        simp only [F_R_length, if_neg h1, R_isIn, Option.bind_some, b01, h2, and_self, not_true_eq_false, if_false, e6, if_pos e5]
  · rw [if_neg h2] at hc
    refine ⟨-1, s, mw s 123 0 0, ?_, ?_, Inv_t h⟩
    · simp only [F_C_length, hc, Option.bind_some]
    · simp only [F_R_length, if_neg h1, R_isIn, Option.bind_some, b01, h2, not_false_eq_true, if_true]
theorem g_wall (v : Int32) : Good Inv (F_C_wall v) (F_R_wall v) := by
  intro s h
  obtain ⟨⟨hHS, hHM, hBR, hLw, hOr, hVi, hDo, ⟨hT0, hT1, hT2, hT3, hT4, hT5, hT6, hT7, hT8⟩⟩, hKR, hUR, hMR⟩ := id h
  obtain ⟨n, hn, e1, e2, e3, e4⟩ := hT5
  have e1 : s 32 1 = nI n := e1
  have e2 : s 123 61 = nI n := e2
  have hc := W_tell (o := 32) (c := 33) (len := 8) rfl rfl rfl rfl (by decide) (by decide) (by decide) v 0 99 s hn e1
  by_cases h1 : v = -1
  · rw [if_pos h1] at hc
    refine ⟨0, mw s 32 1 0, mw (mw (mw s 32 1 0) 123 0 0) 123 61 0, ?_, ?_, ?_⟩
    · simp only [F_C_wall, hc, Option.bind_some]
    · simp only [F_R_wall, if_pos h1]
    · exact ⟨⟨hHS, hHM, hBR, hLw, hOr, hVi, hDo, ⟨hT0, hT1, hT2, hT3, hT4, ⟨0, Nat.zero_le _, rfl, rfl, e3, fun k hk => absurd hk (Nat.not_lt_zero k)⟩, hT6, hT7, hT8⟩⟩, hKR, hUR, hMR⟩
  rw [if_neg h1] at hc
  by_cases h2 : 0 ≤ v ∧ v ≤ 99
  · rw [if_pos h2] at hc
    by_cases h3 : n < 8
    · rw [if_pos h3] at hc
      refine ⟨nI (n + 1), mw (mw s 33 n v) 32 1 (nI (n + 1)), mw (mw (mw (mw (mw s 33 n v) 32 1 (nI (n + 1))) 123 0 0) 157 n v) 123 61 (nI (n + 1)), ?_, ?_, ?_⟩
      · simp only [F_C_wall, hc, Option.bind_some]
      · have e5 : ¬ nI n = 8 := fun q => absurd ((nI_eq (show n < 2 ^ 31 by omega) (show 8 < 2 ^ 31 by decide)).mp q) (by omega)
        have e6 : (mw (mw (mw s 33 n v) 32 1 (nI (n + 1))) 123 0 0) 123 61 = nI n := e2
        simp only [F_R_wall, if_neg h1, R_isIn, Option.bind_some, b01, h2, and_self, not_true_eq_false, if_false, e6, if_neg e5]
        rw [sd_in (c := 157) rfl h3 (by decide)]
        simp only [Option.bind_some]
        have e7 : (mw (mw (mw (mw s 33 n v) 32 1 (nI (n + 1))) 123 0 0) 157 n v) 123 61 = nI n := e2
        rw [e7, nI_1]
        rfl
      · refine ⟨⟨hHS, hHM, hBR, hLw, hOr, hVi, hDo, ⟨hT0, hT1, hT2, hT3, hT4, ⟨n + 1, h3, rfl, rfl, fun k hk => ?_, fun k hk => ?_⟩, hT6, hT7, hT8⟩⟩, hKR, hUR, hMR⟩
        · show mw s 157 n v 157 k = mw s 33 n v 33 k
          by_cases q : k = n
          · rw [q, mw_y, mw_y]
          · rw [mw_n q, mw_n q]; exact e3 k hk
        · show inN 0 99 (mw s 33 n v 33 k)
          by_cases q : k = n
          · rw [q, mw_y]; exact inN_of (by decide) (by decide) h2
          · rw [mw_n q]; exact e4 k (by omega)
    · rw [if_neg h3] at hc
      refine ⟨-1, s, mw s 123 0 0, ?_, ?_, Inv_t h⟩
      · simp only [F_C_wall, hc, Option.bind_some]
      · have e5 : nI n = 8 := by rw [show n = 8 by omega]; rfl
        have e6 : (mw s 123 0 0) 123 61 = nI n := e2
        simp only [F_R_wall, if_neg h1, R_isIn, Option.bind_some, b01, h2, and_self, not_true_eq_false, if_false, e6, if_pos e5]
  · rw [if_neg h2] at hc
    refine ⟨-1, s, mw s 123 0 0, ?_, ?_, Inv_t h⟩
    · simp only [F_C_wall, hc, Option.bind_some]
    · simp only [F_R_wall, if_neg h1, R_isIn, Option.bind_some, b01, h2, not_false_eq_true, if_true]
theorem g_digit (v : Int32) : Good Inv (F_C_digit v) (F_R_digit v) := by
  intro s h
  obtain ⟨⟨hHS, hHM, hBR, hLw, hOr, hVi, hDo, ⟨hT0, hT1, hT2, hT3, hT4, hT5, hT6, hT7, hT8⟩⟩, hKR, hUR, hMR⟩ := id h
  obtain ⟨n, hn, e1, e2, e3, e4⟩ := hT6
  have e1 : s 34 1 = nI n := e1
  have e2 : s 123 64 = nI n := e2
  have hc := W_tell (o := 34) (c := 35) (len := 10) rfl rfl rfl rfl (by decide) (by decide) (by decide) v 0 9 s hn e1
  by_cases h1 : v = -1
  · rw [if_pos h1] at hc
    refine ⟨0, mw s 34 1 0, mw (mw (mw s 34 1 0) 123 0 0) 123 64 0, ?_, ?_, ?_⟩
    · simp only [F_C_digit, hc, Option.bind_some]
    · simp only [F_R_digit, if_pos h1]
    · exact ⟨⟨hHS, hHM, hBR, hLw, hOr, hVi, hDo, ⟨hT0, hT1, hT2, hT3, hT4, hT5, ⟨0, Nat.zero_le _, rfl, rfl, e3, fun k hk => absurd hk (Nat.not_lt_zero k)⟩, hT7, hT8⟩⟩, hKR, hUR, hMR⟩
  rw [if_neg h1] at hc
  by_cases h2 : 0 ≤ v ∧ v ≤ 9
  · rw [if_pos h2] at hc
    by_cases h3 : n < 10
    · rw [if_pos h3] at hc
      refine ⟨nI (n + 1), mw (mw s 35 n v) 34 1 (nI (n + 1)), mw (mw (mw (mw (mw s 35 n v) 34 1 (nI (n + 1))) 123 0 0) 159 n v) 123 64 (nI (n + 1)), ?_, ?_, ?_⟩
      · simp only [F_C_digit, hc, Option.bind_some]
      · have e5 : ¬ nI n = 10 := fun q => absurd ((nI_eq (show n < 2 ^ 31 by omega) (show 10 < 2 ^ 31 by decide)).mp q) (by omega)
        have e6 : (mw (mw (mw s 35 n v) 34 1 (nI (n + 1))) 123 0 0) 123 64 = nI n := e2
        simp only [F_R_digit, if_neg h1, R_isIn, Option.bind_some, b01, h2, and_self, not_true_eq_false, if_false, e6, if_neg e5]
        rw [sd_in (c := 159) rfl h3 (by decide)]
        simp only [Option.bind_some]
        have e7 : (mw (mw (mw (mw s 35 n v) 34 1 (nI (n + 1))) 123 0 0) 159 n v) 123 64 = nI n := e2
        rw [e7, nI_1]
        rfl
      · refine ⟨⟨hHS, hHM, hBR, hLw, hOr, hVi, hDo, ⟨hT0, hT1, hT2, hT3, hT4, hT5, ⟨n + 1, h3, rfl, rfl, fun k hk => ?_, fun k hk => ?_⟩, hT7, hT8⟩⟩, hKR, hUR, hMR⟩
        · show mw s 159 n v 159 k = mw s 35 n v 35 k
          by_cases q : k = n
          · rw [q, mw_y, mw_y]
          · rw [mw_n q, mw_n q]; exact e3 k hk
        · show inN 0 9 (mw s 35 n v 35 k)
          by_cases q : k = n
          · rw [q, mw_y]; exact inN_of (by decide) (by decide) h2
          · rw [mw_n q]; exact e4 k (by omega)
    · rw [if_neg h3] at hc
      refine ⟨-1, s, mw s 123 0 0, ?_, ?_, Inv_t h⟩
      · simp only [F_C_digit, hc, Option.bind_some]
      · have e5 : nI n = 10 := by rw [show n = 10 by omega]; rfl
        have e6 : (mw s 123 0 0) 123 64 = nI n := e2
        simp only [F_R_digit, if_neg h1, R_isIn, Option.bind_some, b01, h2, and_self, not_true_eq_false, if_false, e6, if_pos e5]
  · rw [if_neg h2] at hc
    refine ⟨-1, s, mw s 123 0 0, ?_, ?_, Inv_t h⟩
    · simp only [F_C_digit, hc, Option.bind_some]
    · simp only [F_R_digit, if_neg h1, R_isIn, Option.bind_some, b01, h2, not_false_eq_true, if_true]
