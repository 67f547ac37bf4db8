/-! ===== cellar: rows of digits ===== -/
/-- how often each digit: the class in 104, the reference in 161 -/
def CT (c : Nat → Nat) (a b : Mem) : Prop := ∀ k, k < 10 → c k ≤ 10 ∧ a 104 k = nI (c k) ∧ b 161 k = nI (c k)
theorem ar11 {c : Nat → Nat} {a b : Mem} {i : Nat} {k k' : Int32 → Int32 → Int32 → Mem → Option (Int32 × Mem)} (h : CT c a b) (hi : i < 10) : ∀ (q y m m' : Nat) (x1 x2 : Int32), y + q = c i + 1 → 1 ≤ y → q < m → q < m' → ∃ u v : Int32, F_D_countArranged_11 k m x1 x2 (nI i) (nI y) a = k u v (nI (i + 1)) a ∧ F_R_rowsOf_11 k' m' x1 x2 (nI i) (nI y) b = k' u v (nI (i + 1)) b := by
  obtain ⟨c10, ea, eb⟩ := h i hi
  have la : ld a 104 (nI i) = some (nI (c i)) := (ld_in rfl (show i < 10 from hi) (by decide)).trans (congrArg some ea)
  have lb : ld b 161 (nI i) = some (nI (c i)) := (ld_in rfl (show i < 10 from hi) (by decide)).trans (congrArg some eb)
  intro q
  induction q with
  | zero =>
    intro y m m' x1 x2 hy h1 hm hm'
    obtain ⟨m, rfl⟩ : ∃ m', m = m' + 1 := ⟨m - 1, by omega⟩
    obtain ⟨m', rfl⟩ : ∃ k, m' = k + 1 := ⟨m' - 1, by omega⟩
    have g : nI (c i) < nI y := nI_lt (by omega) (by omega)
    refine ⟨x1, x2, ?_, ?_⟩
    · simp only [F_D_countArranged_11, la, Option.bind_some, if_pos g, nI_1]
    · simp only [F_R_rowsOf_11, lb, Option.bind_some, if_pos g, nI_1]
  | succ q ih =>
    intro y m m' x1 x2 hy h1 hm hm'
    obtain ⟨m, rfl⟩ : ∃ m', m = m' + 1 := ⟨m - 1, by omega⟩
    obtain ⟨m', rfl⟩ : ∃ k, m' = k + 1 := ⟨m' - 1, by omega⟩
    have g : ¬ nI (c i) < nI y := nI_nlt (by omega) (by omega)
    have y0 : ¬ nI y = 0 := nI_ne0 (by omega) (by omega)
    obtain ⟨u, v, z1, z2⟩ := ih (y + 1) m m' (x1 * (x2 + 1) / nI y) (x2 + 1) (by omega) (by omega) (by omega) (by omega)
    refine ⟨u, v, ?_, ?_⟩
    · rw [← z1]
      simp only [F_D_countArranged_11, la, Option.bind_some, if_neg g, if_neg y0, nI_1]
    · rw [← z2]
      simp only [F_R_rowsOf_11, lb, Option.bind_some, if_neg g, if_neg y0, nI_1]
theorem ar6 {c : Nat → Nat} {a b : Mem} (h : CT c a b) : ∀ (q i m m' : Nat) (x1 x2 : Int32), i + q = 10 → q < m → q < m' → ∃ v : Int32, F_D_countArranged_6 m x1 x2 (nI i) a = some (v, a) ∧ F_R_rowsOf_6 m' x1 x2 (nI i) b = some (v, b) := by
  intro q
  induction q with
  | zero =>
    intro i m m' x1 x2 hi hm hm'
    obtain ⟨m, rfl⟩ : ∃ m', m = m' + 1 := ⟨m - 1, by omega⟩
    obtain ⟨m', rfl⟩ : ∃ k, m' = k + 1 := ⟨m' - 1, by omega⟩
    have g : (10 : Int32) ≤ nI i := nI_le (a := 10) (by omega) (by omega)
    refine ⟨x1, ?_, ?_⟩
    · simp only [F_D_countArranged_6, if_pos g]
    · simp only [F_R_rowsOf_6, if_pos g]
  | succ q ih =>
    intro i m m' x1 x2 hi hm hm'
    obtain ⟨m, rfl⟩ : ∃ m', m = m' + 1 := ⟨m - 1, by omega⟩
    obtain ⟨m', rfl⟩ : ∃ k, m' = k + 1 := ⟨m' - 1, by omega⟩
    have g : ¬ (10 : Int32) ≤ nI i := nI_ge (b := 10) (by omega) (by omega)
    have c10 := (h i (by omega)).1
    obtain ⟨u, v, z1, z2⟩ := ar11 (k := F_D_countArranged_6 m) (k' := F_R_rowsOf_6 m') h (show i < 10 by omega) (c i) 1 gF gF x1 x2 (by omega) (Nat.le_refl 1) (by rw [gF_eq]; omega) (by rw [gF_eq]; omega)
    have z1 : F_D_countArranged_11 (F_D_countArranged_6 m) gF x1 x2 (nI i) 1 a = F_D_countArranged_6 m u v (nI (i + 1)) a := z1
    have z2 : F_R_rowsOf_11 (F_R_rowsOf_6 m') gF x1 x2 (nI i) 1 b = F_R_rowsOf_6 m' u v (nI (i + 1)) b := z2
    obtain ⟨r, y1, y2⟩ := ih (i + 1) m m' u v (by omega) (by omega) (by omega)
    refine ⟨r, ?_, ?_⟩
    · simp only [F_D_countArranged_6, if_neg g, z1, y1]
    · simp only [F_R_rowsOf_6, if_neg g, z2, y2]
/-- the number of rows -/
theorem ar_p {c : Nat → Nat} {a b : Mem} (h : CT c a b) : ∃ v : Int32, F_D_countArranged a = some (v, a) ∧ F_R_rowsOf b = some (v, b) :=
  ar6 h 10 0 gF gF 1 0 rfl (by rw [gF_eq]; omega) (by rw [gF_eq]; omega)
