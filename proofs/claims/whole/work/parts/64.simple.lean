theorem one0 : ((1 : Int32) = 0) = False := by simp
theorem g_fault (v : Int32) : Good Inv (F_C_fault v) (F_R_fault v) := by
  intro s h
  obtain ⟨-, -, -, hMR⟩ := id h
  have m1 : s 123 31 = s 0 10 := hMR.2.1
  have m2 : s 123 32 = s 0 11 := hMR.2.2.1
  have n1 : (mw s 123 0 0) 123 31 = s 0 10 := m1
  have n2 : (mw s 123 0 0) 123 32 = s 0 11 := m2
  refine ⟨if v = 0 then s 0 10 else if v = 1 then s 0 11 else -1, s, mw s 123 0 0, ?_, ?_, Inv_t h⟩
  · unfold F_C_fault
    by_cases h1 : v = 0
    · simp only [if_pos h1]
    · by_cases h2 : v = 1
      · simp only [if_neg h1, if_pos h2]
      · simp only [if_neg h1, if_neg h2]
  · simp only [F_R_fault, n1, n2]
    by_cases h1 : v = 0
    · simp only [if_pos h1]
    · by_cases h2 : v = 1
      · simp only [if_neg h1, if_pos h2]
      · simp only [if_neg h1, if_neg h2]
theorem nF_q {a b : Mem} (h : HS a b) : b 123 6 = a 2 2 := by rw [h.2.1, h.2.2.1]
theorem g_look (v : Int32) : Good Inv (F_C_look v) (F_R_look v) := by
  intro s h
  obtain ⟨⟨hHS, hHM, hBR, hLw, hOr, hVi, hDo, hTR⟩, hKR, hUR, hMR⟩ := id h
  obtain ⟨m1, m2, m3, m4, m5, m6, m7⟩ := hHM
  obtain ⟨⟨nb, -, b1, b2⟩, -⟩ := hBR
  obtain ⟨nl, -, l1, l2, -⟩ := hLw
  obtain ⟨no, -, o1, o2, -⟩ := hOr
  obtain ⟨nv, -, v1, v2, -⟩ := hVi
  obtain ⟨nd, -, d1, d2, -⟩ := hDo
  obtain ⟨u, x, -, -, u1, u2, -⟩ := hUR
  have q0 : (mw s 123 0 0) 123 6 = s 2 2 := nF_q hHS
  have q1 : ld (mw s 123 0 0) 124 3 = some (s 2 4) := (ld_in (k := 3) rfl (by decide) (by decide)).trans (congrArg some m5)
  have q2 : ld (mw s 123 0 0) 124 4 = some (s 2 3) := (ld_in (k := 4) rfl (by decide) (by decide)).trans (congrArg some m4)
  have q3 : ld (mw s 123 0 0) 124 0 = some (s 2 5) := (ld_in (k := 0) rfl (by decide) (by decide)).trans (congrArg some m6)
  have q4 : ld (mw s 123 0 0) 124 2 = some (s 5 1) := (ld_in (k := 2) rfl (by decide) (by decide)).trans (congrArg some (b2.trans b1.symm))
  have q5 : ld (mw s 123 0 0) 124 1 = some (s 2 6) := (ld_in (k := 1) rfl (by decide) (by decide)).trans (congrArg some m7)
  have q6 : ld (mw s 123 0 0) 132 0 = some (s 7 6) := (ld_in (k := 0) rfl (by decide) (by decide)).trans (congrArg some (l2.trans l1.symm))
  have q7 : (mw s 123 0 0) 123 33 = s 15 1 := o2.trans o1.symm
  have q8 : (mw s 123 0 0) 123 35 = s 17 1 := v2.trans v1.symm
  have q9 : (mw s 123 0 0) 123 37 = s 19 1 := d2.trans d1.symm
  have qa : (mw s 123 0 0) 123 3 = s 0 6 := u2.trans u1.symm
  refine ⟨if v = 0 then s 2 2 else if v = 1 then s 2 4 else if v = 2 then s 2 3 else if v = 3 then s 2 5 else if v = 4 then s 5 1 else if v = 5 then s 2 6 else if v = 6 then s 7 6 else if v = 7 then s 15 1 else if v = 8 then s 17 1 else if v = 9 then s 19 1 else if v = 10 then s 0 6 else -1, s, mw s 123 0 0, ?_, ?_, Inv_t h⟩
  · skip
    simp only [F_C_look]
    by_cases h0 : v = 0
    · simp only [if_pos h0]
    simp only [if_neg h0]
    by_cases h1 : v = 1
    · simp only [if_pos h1]
    simp only [if_neg h1]
    by_cases h2 : v = 2
    · simp only [if_pos h2]
    simp only [if_neg h2]
    by_cases h3 : v = 3
    · simp only [if_pos h3]
    simp only [if_neg h3]
    by_cases h4 : v = 4
    · simp only [if_pos h4]
    simp only [if_neg h4]
    by_cases h5 : v = 5
    · simp only [if_pos h5]
    simp only [if_neg h5]
    by_cases h6 : v = 6
    · simp only [if_pos h6]
    simp only [if_neg h6]
    by_cases h7 : v = 7
    · simp only [if_pos h7]
    simp only [if_neg h7]
    by_cases h8 : v = 8
    · simp only [if_pos h8]
    simp only [if_neg h8]
    by_cases h9 : v = 9
    · simp only [if_pos h9]
    simp only [if_neg h9]
    by_cases h10 : v = 10
    · simp only [if_pos h10]
    simp only [if_neg h10]
  · skip
    simp only [F_R_look, q0, q1, q2, q3, q4, q5, q6, q7, q8, q9, qa, Option.bind_some]
    by_cases h0 : v = 0
    · simp only [if_pos h0]
    simp only [if_neg h0]
    by_cases h1 : v = 1
    · simp only [if_pos h1]
    simp only [if_neg h1]
    by_cases h2 : v = 2
    · simp only [if_pos h2]
    simp only [if_neg h2]
    by_cases h3 : v = 3
    · simp only [if_pos h3]
    simp only [if_neg h3]
    by_cases h4 : v = 4
    · simp only [if_pos h4]
    simp only [if_neg h4]
    by_cases h5 : v = 5
    · simp only [if_pos h5]
    simp only [if_neg h5]
    by_cases h6 : v = 6
    · simp only [if_pos h6]
    simp only [if_neg h6]
    by_cases h7 : v = 7
    · simp only [if_pos h7]
    simp only [if_neg h7]
    by_cases h8 : v = 8
    · simp only [if_pos h8]
    simp only [if_neg h8]
    by_cases h9 : v = 9
    · simp only [if_pos h9]
    simp only [if_neg h9]
    by_cases h10 : v = 10
    · simp only [if_pos h10]
    simp only [if_neg h10]
theorem g_end (v : Int32) : Good Inv (F_C_end v) (F_R_end v) := by
  intro s h
  obtain ⟨hRR, hKR, hUR, ⟨n, hn, e1, e2, e3⟩, hM2⟩ := id h
  have e1 : s 0 8 = nI n := e1
  have e2 : (mw s 123 0 0) 123 11 = nI n := e2
  by_cases h1 : 0 ≤ v ∧ v ≤ nI n
  · obtain ⟨k, hk, rfl⟩ := in_nI (by omega) h1
    refine ⟨1, mw s 0 8 (nI k), mw (mw (mw s 0 8 (nI k)) 123 0 0) 123 11 (nI k), ?_, ?_, ?_⟩
    · simp only [F_C_end, C_within, e1, Option.bind_some, b01, h1, and_self, not_true_eq_false, if_false]
    · have e2' : (mw (mw s 0 8 (nI k)) 123 0 0) 123 11 = nI n := e2
      simp only [F_R_end, R_isIn, e2', Option.bind_some, b01, h1, and_self, not_true_eq_false, if_false]
    · exact ⟨hRR, hKR, hUR, ⟨k, by omega, rfl, rfl, fun j hj => e3 j (by omega)⟩, hM2⟩
  · refine ⟨0, s, mw s 123 0 0, ?_, ?_, Inv_t h⟩
    · simp only [F_C_end, C_within, e1, Option.bind_some, b01, h1, not_false_eq_true, if_true]
    · simp only [F_R_end, R_isIn, e2, Option.bind_some, b01, h1, not_false_eq_true, if_true]
theorem g_coins (a v : Int32) : Good Inv (F_C_coins a v) (F_R_coins a v) := by
  intro s h
  obtain ⟨⟨hHS, hHM, hBR, hLw, hOr, hVi, hDo, ⟨hT0, hT1, hT2, hT3, hT4, hT5, hT6, hT7, hT8⟩⟩, hKR, hUR, hMR⟩ := id h
  by_cases h1 : 1 ≤ a ∧ a ≤ 8
  · by_cases h2 : 0 ≤ v ∧ v ≤ 20
    · obtain ⟨k, k1, k2, rfl⟩ := inN_of (lo := 1) (hi := 8) (by decide) (by decide) h1
      have hv := inN_of (lo := 0) (hi := 20) (by decide) (by decide) h2
      refine ⟨1, mw s 36 k v, mw (mw (mw s 36 k v) 123 0 0) 162 k v, ?_, ?_, ?_⟩
      · simp only [F_C_coins, C_within, Option.bind_some, b01, h1, h2, and_self, not_true_eq_false, if_false]
        rw [sd_in (c := 36) rfl (show k < 9 by omega) (by decide)]
        rfl
      · simp only [F_R_coins, R_isIn, Option.bind_some, b01, h1, h2, and_self, not_true_eq_false, if_false]
        rw [sd_in (c := 162) rfl (show k < 9 by omega) (by decide)]
        rfl
      · refine ⟨⟨hHS, hHM, hBR, hLw, hOr, hVi, hDo, ⟨hT0, hT1, hT2, hT3, hT4, hT5, hT6, hT7, fun j hj => ?_⟩⟩, hKR, hUR, hMR⟩
        show mw s 162 k v 162 j = mw s 36 k v 36 j ∧ inN 0 20 (mw s 36 k v 36 j)
        by_cases q : j = k
        · rw [q, mw_y, mw_y]; exact ⟨rfl, hv⟩
        · rw [mw_n q, mw_n q]; exact hT8 j hj
    · refine ⟨0, s, mw s 123 0 0, ?_, ?_, Inv_t h⟩
      · simp only [F_C_coins, C_within, Option.bind_some, b01, h1, h2, and_self, not_true_eq_false, not_false_eq_true, if_false, if_true, one0]
      · simp only [F_R_coins, R_isIn, Option.bind_some, b01, h1, h2, and_self, not_true_eq_false, not_false_eq_true, if_false, if_true, one0]
  · refine ⟨0, s, mw s 123 0 0, ?_, ?_, Inv_t h⟩
    · simp only [F_C_coins, C_within, Option.bind_some, b01, h1, not_false_eq_true, if_true]
    · simp only [F_R_coins, R_isIn, Option.bind_some, b01, h1, not_false_eq_true, if_true]
theorem W_add {o c len : Nat} (hk : kd o = 11) (hr : rf o 0 = c) (hc : kd c = 1) (hl : ln c = len) (hlen : len < 2 ^ 31) (h0 : 0 < len) (hoc : o ≠ c) (x : Int32) (s : Mem) {n : Nat} (hn : n ≤ len) (e : s o 1 = nI n) : F_W_add o x s = if n < len then some (nI (n + 1), mw (mw s c n x) o 1 (nI (n + 1))) else some (-1, s) := by
  simp only [hk, show Nat.beq 11 11 = true from rfl, cond_true, F_W_add, hr, hc, hl, show Nat.beq 1 1 = true from rfl, Bool.true_or, e]
  have e1 : nI len - 1 = nI (len - 1) := n_sub (b := 1) h0
  rw [C_within]
  simp only [Option.bind_some, b01, e1]
  have e2 : (0 ≤ nI n ∧ nI n ≤ nI (len - 1)) ↔ n < len := by
    rw [nI_leI (show n < 2 ^ 31 by omega) (show len - 1 < 2 ^ 31 by omega)]
    constructor
    · intro h; omega
    · intro h; exact ⟨nI_pos' (by omega), by omega⟩
  by_cases h3 : n < len
  · rw [if_neg (by rw [e2]; exact fun q => q h3), if_pos h3, e, sd_in hc (by rw [hl]; exact h3) (by rw [hl]; exact hlen)]
    simp only [Option.bind_some]
    have e3 : mw s c n x o 1 = nI n := by rw [mw_o hoc, e]
    rw [e3, nI_1]
    rw [mw_y]
  · rw [if_pos (by rw [e2]; exact h3), if_neg h3]
theorem g_suspect (a v : Int32) : Good Inv (F_C_suspect a v) (F_R_suspect a v) := by
  intro s h
  obtain ⟨⟨hHS, hHM, hBR, hLw, hOr, hVi, hDo, ⟨⟨n, hn, e1, e2, e3, e4⟩, ⟨n', hn', e1', e2', e3', e4'⟩, hT2, hT3, hT4, hT5, hT6, hT7, hT8⟩⟩, hKR, hUR, hMR⟩ := id h
  have e1 : s 22 1 = nI n := e1
  have e2 : s 123 43 = nI n := e2
  have e1' : s 24 1 = nI n' := e1'
  have e2' : s 123 43 = nI n' := e2'
  have hnn : n' = n := (nI_eq (by omega) (by omega)).mp (e2'.symm.trans e2)
  subst hnn
  by_cases h1 : a = -1
  · refine ⟨0, mw (mw s 24 1 0) 22 1 0, mw (mw (mw (mw s 24 1 0) 22 1 0) 123 0 0) 123 43 0, ?_, ?_, ?_⟩
    · simp only [F_C_suspect, if_pos h1, F_W_clear, show Nat.beq (kd 24) 11 = true from rfl, show Nat.beq (kd 22) 11 = true from rfl, cond_true, Option.bind_some]
    · simp only [F_R_suspect, if_pos h1]
    · exact ⟨⟨hHS, hHM, hBR, hLw, hOr, hVi, hDo, ⟨⟨0, Nat.zero_le _, rfl, rfl, e3, fun k hk => absurd hk (Nat.not_lt_zero k)⟩, ⟨0, Nat.zero_le _, rfl, rfl, e3', fun k hk => absurd hk (Nat.not_lt_zero k)⟩, hT2, hT3, hT4, hT5, hT6, hT7, hT8⟩⟩, hKR, hUR, hMR⟩
  by_cases h2 : 1 ≤ a ∧ a ≤ 200
  · by_cases h3 : 1 ≤ v ∧ v ≤ 5
    · have hc1 := W_add (o := 24) (c := 25) (len := 8) rfl rfl rfl rfl (by decide) (by decide) (by decide) v s hn e1'
      by_cases h4 : n' < 8
      · rw [if_pos h4] at hc1
        have hc2 := W_add (o := 22) (c := 23) (len := 8) rfl rfl rfl rfl (by decide) (by decide) (by decide) a (mw (mw s 25 n' v) 24 1 (nI (n' + 1))) hn e1
        rw [if_pos h4] at hc2
        refine ⟨nI (n' + 1), mw (mw (mw (mw s 25 n' v) 24 1 (nI (n' + 1))) 23 n' a) 22 1 (nI (n' + 1)), mw (mw (mw (mw (mw (mw (mw (mw s 25 n' v) 24 1 (nI (n' + 1))) 23 n' a) 22 1 (nI (n' + 1))) 123 0 0) 146 n' a) 147 n' v) 123 43 (nI (n' + 1)), ?_, ?_, ?_⟩
        · simp only [F_C_suspect, if_neg h1, F_C_isVisitor, C_within, Option.bind_some, b01, h2, h3, and_self, not_true_eq_false, if_false, hc1, hc2]
          rw [if_neg (show ¬ (1 : Int32) = 0 by decide)]
        · have e5 : ¬ nI n' = 8 := fun q => absurd ((nI_eq (show n' < 2 ^ 31 by omega) (show 8 < 2 ^ 31 by decide)).mp q) (by omega)
          have e6 : (mw (mw (mw (mw (mw s 25 n' v) 24 1 (nI (n' + 1))) 23 n' a) 22 1 (nI (n' + 1))) 123 0 0) 123 43 = nI n' := e2
          have e7 : (mw (mw (mw (mw (mw (mw s 25 n' v) 24 1 (nI (n' + 1))) 23 n' a) 22 1 (nI (n' + 1))) 123 0 0) 146 n' a) 123 43 = nI n' := e2
          have e8 : (mw (mw (mw (mw (mw (mw (mw s 25 n' v) 24 1 (nI (n' + 1))) 23 n' a) 22 1 (nI (n' + 1))) 123 0 0) 146 n' a) 147 n' v) 123 43 = nI n' := e2
          simp only [F_R_suspect, if_neg h1, R_isIn, Option.bind_some, b01, h2, h3, and_self, not_true_eq_false, if_false, e6, if_neg e5]
          rw [sd_in (c := 146) rfl h4 (by decide)]
          simp only [Option.bind_some, e7]
          rw [sd_in (c := 147) rfl h4 (by decide)]
          simp only [Option.bind_some, e8]
          rw [nI_1]
          rfl
        · refine ⟨⟨hHS, hHM, hBR, hLw, hOr, hVi, hDo, ⟨⟨n' + 1, h4, rfl, rfl, fun k hk => ?_, fun k hk => ?_⟩, ⟨n' + 1, h4, rfl, rfl, fun k hk => ?_, fun k hk => ?_⟩, hT2, hT3, hT4, hT5, hT6, hT7, hT8⟩⟩, hKR, hUR, hMR⟩
          · show mw s 146 n' a 146 k = mw s 23 n' a 23 k
            by_cases q : k = n'
            · rw [q, mw_y, mw_y]
            · rw [mw_n q, mw_n q]; exact e3 k hk
          · show inN 1 200 (mw s 23 n' a 23 k)
            by_cases q : k = n'
            · rw [q, mw_y]; exact inN_of (by decide) (by decide) h2
            · rw [mw_n q]; exact e4 k (by omega)
          · show mw s 147 n' v 147 k = mw s 25 n' v 25 k
            by_cases q : k = n'
            · rw [q, mw_y, mw_y]
            · rw [mw_n q, mw_n q]; exact e3' k hk
          · show inN 1 5 (mw s 25 n' v 25 k)
            by_cases q : k = n'
            · rw [q, mw_y]; exact inN_of (by decide) (by decide) h3
            · rw [mw_n q]; exact e4' k (by omega)
      · rw [if_neg h4] at hc1
        have hc2 := W_add (o := 22) (c := 23) (len := 8) rfl rfl rfl rfl (by decide) (by decide) (by decide) a s hn e1
        rw [if_neg h4] at hc2
        refine ⟨-1, s, mw s 123 0 0, ?_, ?_, Inv_t h⟩
        · simp only [F_C_suspect, if_neg h1, F_C_isVisitor, C_within, Option.bind_some, b01, h2, h3, and_self, not_true_eq_false, if_false, hc1, hc2]
          rw [if_neg (show ¬ (1 : Int32) = 0 by decide)]
        · have e5 : nI n' = 8 := by rw [show n' = 8 by omega]; rfl
          have e6 : (mw s 123 0 0) 123 43 = nI n' := e2
          simp only [F_R_suspect, if_neg h1, R_isIn, Option.bind_some, b01, h2, h3, and_self, not_true_eq_false, if_false, e6, if_pos e5]
    · refine ⟨-1, s, mw s 123 0 0, ?_, ?_, Inv_t h⟩
      · simp only [F_C_suspect, if_neg h1, F_C_isVisitor, C_within, Option.bind_some, b01, h2, h3, and_self, not_true_eq_false, not_false_eq_true, if_false, if_true, one0]
      · simp only [F_R_suspect, if_neg h1, R_isIn, Option.bind_some, b01, h2, h3, and_self, not_true_eq_false, not_false_eq_true, if_false, if_true, one0]
  · refine ⟨-1, s, mw s 123 0 0, ?_, ?_, Inv_t h⟩
    · simp only [F_C_suspect, if_neg h1, F_C_isVisitor, C_within, Option.bind_some, b01, h2, not_false_eq_true, if_true]
    · simp only [F_R_suspect, if_neg h1, R_isIn, Option.bind_some, b01, h2, not_false_eq_true, if_true]
theorem g_book (a v : Int32) : Good Inv (F_C_book a v) (F_R_book a v) := by
  intro s h
  obtain ⟨⟨hHS, hHM, ⟨⟨n, hn, b1, b2⟩, b3⟩, -⟩, -⟩ := id h
  have b1 : s 5 1 = nI n := b1
  have q1 : ld (mw s 123 0 0) 124 2 = some (nI n) := (ld_in (k := 2) rfl (by decide) (by decide)).trans (congrArg some b2)
  have q2 : ¬ (150 : Int32) < nI n := nI_nlt (a := 150) (b := n) hn (by decide)
  by_cases h1 : 0 ≤ a ∧ a ≤ nI n - 1
  · by_cases h2 : 0 ≤ v ∧ v ≤ 3
    · obtain ⟨y, y1, y2, rfl⟩ := inN_of (lo := 0) (hi := 3) (by decide) (by decide) h2
      have h3 : ∃ x, x < n ∧ a = nI x := by
        have z1 := (fa_le _ _).mp h1.1
        have z2 := (fa_le _ _).mp h1.2
        have z3 : (nI n - 1).toInt = n - 1 := by
          rw [i_sub (by rw [nI_toInt (by omega)]; show _ ≤ (n : Int) - 1; omega) (by rw [nI_toInt (by omega)]; show (n : Int) - 1 < _; omega), nI_toInt (by omega)]
          rfl
        have z1 : 0 ≤ a.toInt := z1
        rw [z3] at z2
        exact ⟨a.toInt.toNat, by omega, n_of z1⟩
      obtain ⟨x, hx, rfl⟩ := h3
      have e1 : nI x * 4 + nI y = nI (4 * x + y) := by
        rw [show (4 : Int32) = nI 4 from rfl, n_mul, nI_add]
        congr 1
        omega
      have e2 : 4 * nI x + nI y = nI (4 * x + y) := by
        rw [show (4 : Int32) = nI 4 from rfl, n_mul, nI_add]
      refine ⟨s 6 (4 * x + y), s, mw s 123 0 0, ?_, ?_, Inv_t h⟩
      · simp only [F_C_book, F_B_at, C_min, C_within, b1, if_neg q2, Option.bind_some, b01, h1, h2, and_self, not_true_eq_false, if_false, e1]
        rw [ld_in (c := 6) rfl (show 4 * x + y < 600 by omega) (by decide)]
        rfl
      · simp only [F_R_book, q1, R_isIn, Option.bind_some, b01, h1, h2, and_self, not_true_eq_false, if_false, e2]
        rw [ld_in (c := 129) rfl (show 4 * x + y < 600 by omega) (by decide)]
        exact congrArg (fun w => some (w, mw s 123 0 0)) (b3 (4 * x + y) (by omega))
    · refine ⟨-1, s, mw s 123 0 0, ?_, ?_, Inv_t h⟩
      · simp only [F_C_book, F_B_at, C_min, C_within, b1, if_neg q2, Option.bind_some, b01, h1, h2, and_self, not_true_eq_false, not_false_eq_true, if_false, if_true, one0]
      · simp only [F_R_book, q1, R_isIn, Option.bind_some, b01, h1, h2, and_self, not_true_eq_false, not_false_eq_true, if_false, if_true, one0]
  · refine ⟨-1, s, mw s 123 0 0, ?_, ?_, Inv_t h⟩
    · simp only [F_C_book, F_B_at, C_min, C_within, b1, if_neg q2, Option.bind_some, b01, h1, not_false_eq_true, if_true]
    · simp only [F_R_book, q1, R_isIn, Option.bind_some, b01, h1, not_false_eq_true, if_true]
