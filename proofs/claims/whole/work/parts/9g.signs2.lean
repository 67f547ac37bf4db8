theorem bf_p {n x y : Nat} {s s0 : Mem} (h : SR n s s0) (hx : x < 4) (hy : y < 4) : ∃ c', c' ≤ n ∧ F_D_before (nI x) (nI y) s = some (nI c', s) ∧ ∀ t, eqV t s0 → ∃ t', eqV t' s0 ∧ F_R_votesFor (nI x) (nI y) t = some (nI c', t') := by
  have := h.1
  exact bf4 h hx hy n 0 gF gF 0 (by omega) (by rw [gF_eq]; omega) (by rw [gF_eq]; omega) (by omega)
theorem ia7 {n X i : Nat} {s s0 : Mem} {k k' : Int32 → Int32 → Mem → Option (Int32 × Mem)} (h : SR n s s0) (hX : X < 16) (hi : i < 4) : ∀ (q j m m' : Nat), j + q = 4 → q < m → q < m' → (F_D_isAhead_7 k m (nI X) (nI i) (nI j) s = some (0, s) ∧ ∀ t, eqV t s0 → ∃ t', eqV t' s0 ∧ F_R_isTop_7 k' m' (nI X) (nI i) (nI j) t = some (0, t')) ∨ (F_D_isAhead_7 k m (nI X) (nI i) (nI j) s = k (nI X) (nI (i + 1)) s ∧ ∀ t, eqV t s0 → ∃ t', eqV t' s0 ∧ F_R_isTop_7 k' m' (nI X) (nI i) (nI j) t = k' (nI X) (nI (i + 1)) t') := by
  intro q
  induction q with
  | zero =>
    intro j m m' hj hm hm'
    obtain ⟨m, rfl⟩ : ∃ m', m = m' + 1 := ⟨m - 1, by omega⟩
    obtain ⟨m', rfl⟩ : ∃ k, m' = k + 1 := ⟨m' - 1, by omega⟩
    have g : (4 : Int32) ≤ nI j := nI_le (a := 4) (by omega) (by omega)
    right
    refine ⟨?_, fun t ht => ⟨t, ht, ?_⟩⟩
    · simp only [F_D_isAhead_7, if_pos g, nI_1]
    · simp only [F_R_isTop_7, if_pos g, nI_1]
  | succ q ih =>
    intro j m m' hj hm hm'
    obtain ⟨m, rfl⟩ : ∃ m', m = m' + 1 := ⟨m - 1, by omega⟩
    obtain ⟨m', rfl⟩ : ∃ k, m' = k + 1 := ⟨m' - 1, by omega⟩
    have g : ¬ (4 : Int32) ≤ nI j := nI_ge (b := 4) (by omega) (by omega)
    have bi := n_bit (a := X) (k := i) (by omega) (by omega)
    have bj := n_bit (a := X) (k := j) (by omega) (by omega)
    have hbi : ∀ t, F_R_has (nI X) (nI i) t = some (if X.testBit i = true then 1 else 0, t) := fun t => R_has (by omega) (by omega) t
    have hbj : ∀ t, F_R_has (nI X) (nI j) t = some (if X.testBit j = true then 1 else 0, t) := fun t => R_has (by omega) (by omega) t
    have ihh := ih (j + 1) m m' (by omega) (by omega) (by omega)
    by_cases ci : X.testBit i = true
    · rw [if_pos ci] at bi
      by_cases cj : X.testBit j = true
      · rw [if_pos cj] at bj
        have s1 : F_D_isAhead_7 k (m + 1) (nI X) (nI i) (nI j) s = F_D_isAhead_7 k m (nI X) (nI i) (nI (j + 1)) s := by
          simp only [F_D_isAhead_7, if_neg g, bi, bj, show (nI 1 = 1) = True from by decide, show (nI 1 = 0) = False from by decide, if_true, if_false, nI_1]
        have s2 : ∀ t, F_R_isTop_7 k' (m' + 1) (nI X) (nI i) (nI j) t = F_R_isTop_7 k' m' (nI X) (nI i) (nI (j + 1)) t := fun t => by
          simp only [F_R_isTop_7, if_neg g, hbi, hbj, if_pos ci, if_pos cj, Option.bind_some, one0, if_false, nI_1]
        simp only [s1, s2]
        exact ihh
      · rw [if_neg cj] at bj
        obtain ⟨c, hc, d1, d2⟩ := bf_p h hi (show j < 4 by omega)
        have n7 := h.1
        have x1 : (nI n < 2 * nI c) ↔ n < 2 * c := by
          rw [show (2 : Int32) * nI c = nI (2 * c) from n_mul 2 c]
          exact nI_ltI (by omega) (by omega)
        have x2 : (2 * nI c ≤ nI n) ↔ 2 * c ≤ n := by
          rw [show (2 : Int32) * nI c = nI (2 * c) from n_mul 2 c]
          exact nI_leI (by omega) (by omega)
        by_cases cc : n < 2 * c
        · have s1 : F_D_isAhead_7 k (m + 1) (nI X) (nI i) (nI j) s = F_D_isAhead_7 k m (nI X) (nI i) (nI (j + 1)) s := by
            simp only [F_D_isAhead_7, if_neg g, bi, bj, show (nI 1 = 1) = True from by decide, show (nI 0 = 0) = True from by decide, if_true, d1, Option.bind_some, h.2.1, if_pos (x1.mpr cc), nI_1]
          have s2 : ∀ t, eqV t s0 → ∃ t1, eqV t1 s0 ∧ F_R_isTop_7 k' (m' + 1) (nI X) (nI i) (nI j) t = F_R_isTop_7 k' m' (nI X) (nI i) (nI (j + 1)) t1 := fun t ht => by
            obtain ⟨t1, o1, z1⟩ := d2 t ht
            refine ⟨t1, o1, ?_⟩
            simp only [F_R_isTop_7, if_neg g, hbi, hbj, if_pos ci, if_neg cj, Option.bind_some, one0, if_false, if_true, F_R_isBefore, z1, o1 123 (by decide), h.2.2.1, if_neg (fun q => absurd (x2.mp q) (by omega)), nI_1]
          rw [s1]
          rcases ihh with ⟨y1, y2⟩ | ⟨y1, y2⟩
          · left
            refine ⟨y1, fun t ht => ?_⟩
            obtain ⟨t1, o1, z1⟩ := s2 t ht
            rw [z1]
            exact y2 t1 o1
          · right
            refine ⟨y1, fun t ht => ?_⟩
            obtain ⟨t1, o1, z1⟩ := s2 t ht
            rw [z1]
            exact y2 t1 o1
        · left
          refine ⟨?_, fun t ht => ?_⟩
          · simp only [F_D_isAhead_7, if_neg g, bi, bj, show (nI 1 = 1) = True from by decide, show (nI 0 = 0) = True from by decide, if_true, d1, Option.bind_some, h.2.1, if_neg (fun q => cc (x1.mp q))]
          · obtain ⟨t1, o1, z1⟩ := d2 t ht
            refine ⟨t1, o1, ?_⟩
            simp only [F_R_isTop_7, if_neg g, hbi, hbj, if_pos ci, if_neg cj, Option.bind_some, one0, if_false, if_true, F_R_isBefore, z1, o1 123 (by decide), h.2.2.1, if_pos (x2.mpr (show 2 * c ≤ n by omega))]
    · rw [if_neg ci] at bi
      have s1 : F_D_isAhead_7 k (m + 1) (nI X) (nI i) (nI j) s = F_D_isAhead_7 k m (nI X) (nI i) (nI (j + 1)) s := by
        simp only [F_D_isAhead_7, if_neg g, bi, show (nI 0 = 1) = False from by decide, if_false, nI_1]
      have s2 : ∀ t, F_R_isTop_7 k' (m' + 1) (nI X) (nI i) (nI j) t = F_R_isTop_7 k' m' (nI X) (nI i) (nI (j + 1)) t := fun t => by
        simp only [F_R_isTop_7, if_neg g, hbi, if_neg ci, Option.bind_some, if_true, nI_1]
      simp only [s1, s2]
      exact ihh
theorem ia2 {n X : Nat} {s s0 : Mem} (h : SR n s s0) (hX : X < 16) : ∀ (q i m m' : Nat), i + q = 4 → q < m → q < m' → ∃ v : Int32, (v = 0 ∨ v = 1) ∧ F_D_isAhead_2 m (nI X) (nI i) s = some (v, s) ∧ ∀ t, eqV t s0 → ∃ t', eqV t' s0 ∧ F_R_isTop_2 m' (nI X) (nI i) t = some (v, t') := by
  intro q
  induction q with
  | zero =>
    intro i m m' hi hm hm'
    obtain ⟨m, rfl⟩ : ∃ m', m = m' + 1 := ⟨m - 1, by omega⟩
    obtain ⟨m', rfl⟩ : ∃ k, m' = k + 1 := ⟨m' - 1, by omega⟩
    have g : (4 : Int32) ≤ nI i := nI_le (a := 4) (by omega) (by omega)
    refine ⟨1, Or.inr rfl, ?_, fun t ht => ⟨t, ht, ?_⟩⟩
    · simp only [F_D_isAhead_2, if_pos g]
    · simp only [F_R_isTop_2, if_pos g]
  | succ q ih =>
    intro i m m' hi hm hm'
    obtain ⟨m, rfl⟩ : ∃ m', m = m' + 1 := ⟨m - 1, by omega⟩
    obtain ⟨m', rfl⟩ : ∃ k, m' = k + 1 := ⟨m' - 1, by omega⟩
    have g : ¬ (4 : Int32) ≤ nI i := nI_ge (b := 4) (by omega) (by omega)
    have s1 : F_D_isAhead_2 (m + 1) (nI X) (nI i) s = F_D_isAhead_7 (F_D_isAhead_2 m) gF (nI X) (nI i) (nI 0) s := by
      rw [show nI 0 = 0 from rfl]
      simp only [F_D_isAhead_2, if_neg g]
    have s2 : ∀ t, F_R_isTop_2 (m' + 1) (nI X) (nI i) t = F_R_isTop_7 (F_R_isTop_2 m') gF (nI X) (nI i) (nI 0) t := fun t => by
      rw [show nI 0 = 0 from rfl]
      simp only [F_R_isTop_2, if_neg g]
    rcases ia7 (k := F_D_isAhead_2 m) (k' := F_R_isTop_2 m') h hX (show i < 4 by omega) 4 0 gF gF rfl (by rw [gF_eq]; omega) (by rw [gF_eq]; omega) with ⟨y1, y2⟩ | ⟨y1, y2⟩
    · refine ⟨0, Or.inl rfl, by rw [s1]; exact y1, fun t ht => ?_⟩
      rw [s2]
      exact y2 t ht
    · obtain ⟨v, v1, v2, v3⟩ := ih (i + 1) m m' (by omega) (by omega) (by omega)
      refine ⟨v, v1, by rw [s1, y1]; exact v2, fun t ht => ?_⟩
      obtain ⟨t1, o1, z1⟩ := y2 t ht
      rw [s2, z1]
      exact v3 t1 o1
theorem ia {n : Nat} {s s0 : Mem} (h : SR n s s0) : ∃ T : Nat → Bool, ∀ X, X < 16 → F_D_isAhead (nI X) s = some (if T X = true then 1 else 0, s) ∧ ∀ t, eqV t s0 → ∃ t', eqV t' s0 ∧ F_R_isTop (nI X) t = some (if T X = true then 1 else 0, t') := by
  have key : ∀ X, X < 16 → ∃ b : Bool, F_D_isAhead (nI X) s = some (if b = true then 1 else 0, s) ∧ ∀ t, eqV t s0 → ∃ t', eqV t' s0 ∧ F_R_isTop (nI X) t = some (if b = true then 1 else 0, t') := fun X hX => by
    obtain ⟨v, v1, v2, v3⟩ := ia2 h hX 4 0 gF gF rfl (by rw [gF_eq]; omega) (by rw [gF_eq]; omega)
    rcases v1 with rfl | rfl
    · exact ⟨false, v2, v3⟩
    · exact ⟨true, v2, v3⟩
  refine ⟨fun X => if hX : X < 16 then Classical.choose (key X hX) else false, fun X hX => ?_⟩
  have := Classical.choose_spec (key X hX)
  simp only [dif_pos hX]
  exact this
/-! the pairs on which all agree -/
theorem ac14 {n i : Nat} {s s0 : Mem} {k k' : Int32 → Int32 → Mem → Option (Int32 × Mem)} (h : SR n s s0) (hn : 0 < n) (hi : i < 4) : ∀ (q j m m' : Nat) (v : Int32), j + q = 4 → q < m → q < m' → ∃ v' : Int32, F_D_agreedCouples_14 k m v (nI i) (nI j) s = k v' (nI (i + 1)) s ∧ ∀ t, eqV t s0 → ∃ t', eqV t' s0 ∧ F_R_signs_15 k' m' v (nI i) (nI j) t = k' v' (nI (i + 1)) t' := by
  have n7 := h.1
  intro q
  induction q with
  | zero =>
    intro j m m' v hj hm hm'
    obtain ⟨m, rfl⟩ : ∃ m', m = m' + 1 := ⟨m - 1, by omega⟩
    obtain ⟨m', rfl⟩ : ∃ k, m' = k + 1 := ⟨m' - 1, by omega⟩
    have g : (4 : Int32) ≤ nI j := nI_le (a := 4) (by omega) (by omega)
    refine ⟨v, ?_, fun t ht => ⟨t, ht, ?_⟩⟩
    · simp only [F_D_agreedCouples_14, if_pos g, nI_1]
    · simp only [F_R_signs_15, if_pos g, nI_1]
  | succ q ih =>
    intro j m m' v hj hm hm'
    obtain ⟨m, rfl⟩ : ∃ m', m = m' + 1 := ⟨m - 1, by omega⟩
    obtain ⟨m', rfl⟩ : ∃ k, m' = k + 1 := ⟨m' - 1, by omega⟩
    have g : ¬ (4 : Int32) ≤ nI j := nI_ge (b := 4) (by omega) (by omega)
    have p0 : ¬ nI n ≤ 0 := nI_ge (b := n) (a := 0) (by omega) (by omega)
    have eij : (nI i = nI j) ↔ i = j := nI_eq (by omega) (by omega)
    by_cases cij : i = j
    · obtain ⟨v', y1, y2⟩ := ih (j + 1) m m' v (by omega) (by omega) (by omega)
      refine ⟨v', ?_, fun t ht => ?_⟩
      · rw [← y1]
        simp only [F_D_agreedCouples_14, if_neg g, if_pos (eij.mpr cij), Int32.add_zero, nI_1]
      · obtain ⟨t', o, z⟩ := y2 t ht
        refine ⟨t', o, ?_⟩
        rw [← z]
        simp only [F_R_signs_15, if_neg g, if_pos (eij.mpr cij), nI_1]
    · obtain ⟨c, hc, d1, d2⟩ := bf_p h hi (show j < 4 by omega)
      have ec : (nI c = nI n) ↔ c = n := nI_eq (by omega) (by omega)
      by_cases cc : c = n
      · obtain ⟨v', y1, y2⟩ := ih (j + 1) m m' (v + 1) (by omega) (by omega) (by omega)
        refine ⟨v', ?_, fun t ht => ?_⟩
        · rw [← y1]
          simp only [F_D_agreedCouples_14, if_neg g, if_neg (fun q => cij (eij.mp q)), d1, Option.bind_some, h.2.1, if_pos (ec.mpr cc), nI_1]
        · obtain ⟨t1, o1, z1⟩ := d2 t ht
          obtain ⟨t', o, z⟩ := y2 t1 o1
          refine ⟨t', o, ?_⟩
          rw [← z]
          simp only [F_R_signs_15, if_neg g, if_neg (fun q => cij (eij.mp q)), ht 123 (by decide), o1 123 (by decide), h.2.2.1, if_neg p0, z1, Option.bind_some, if_pos (ec.mpr cc), nI_1]
      · obtain ⟨v', y1, y2⟩ := ih (j + 1) m m' v (by omega) (by omega) (by omega)
        refine ⟨v', ?_, fun t ht => ?_⟩
        · rw [← y1]
          simp only [F_D_agreedCouples_14, if_neg g, if_neg (fun q => cij (eij.mp q)), d1, Option.bind_some, h.2.1, if_neg (fun q => cc (ec.mp q)), Int32.add_zero, nI_1]
        · obtain ⟨t1, o1, z1⟩ := d2 t ht
          obtain ⟨t', o, z⟩ := y2 t1 o1
          refine ⟨t', o, ?_⟩
          rw [← z]
          simp only [F_R_signs_15, if_neg g, if_neg (fun q => cij (eij.mp q)), ht 123 (by decide), o1 123 (by decide), h.2.2.1, if_neg p0, z1, Option.bind_some, if_neg (fun q => cc (ec.mp q)), nI_1]
theorem ac9 {n : Nat} {s s0 : Mem} (h : SR n s s0) (hn : 0 < n) : ∀ (q i m m' : Nat) (v : Int32), i + q = 4 → q < m → q < m' → ∃ v' : Int32, F_D_agreedCouples_9 m v (nI i) s = some (v', s) ∧ ∀ t, eqV t s0 → ∃ t', eqV t' s0 ∧ F_R_signs_10 m' v (nI i) t = some (v', t') := by
  intro q
  induction q with
  | zero =>
    intro i m m' v hi hm hm'
    obtain ⟨m, rfl⟩ : ∃ m', m = m' + 1 := ⟨m - 1, by omega⟩
    obtain ⟨m', rfl⟩ : ∃ k, m' = k + 1 := ⟨m' - 1, by omega⟩
    have g : (4 : Int32) ≤ nI i := nI_le (a := 4) (by omega) (by omega)
    refine ⟨v, ?_, fun t ht => ⟨t, ht, ?_⟩⟩
    · simp only [F_D_agreedCouples_9, if_pos g]
    · simp only [F_R_signs_10, if_pos g]
  | succ q ih =>
    intro i m m' v hi hm hm'
    obtain ⟨m, rfl⟩ : ∃ m', m = m' + 1 := ⟨m - 1, by omega⟩
    obtain ⟨m', rfl⟩ : ∃ k, m' = k + 1 := ⟨m' - 1, by omega⟩
    have g : ¬ (4 : Int32) ≤ nI i := nI_ge (b := 4) (by omega) (by omega)
    obtain ⟨v1, y1, y2⟩ := ac14 (k := F_D_agreedCouples_9 m) (k' := F_R_signs_10 m') h hn (show i < 4 by omega) 4 0 gF gF v rfl (by rw [gF_eq]; omega) (by rw [gF_eq]; omega)
    obtain ⟨v2, z1, z2⟩ := ih (i + 1) m m' v1 (by omega) (by omega) (by omega)
    refine ⟨v2, ?_, fun t ht => ?_⟩
    · rw [← z1, ← y1, show nI 0 = 0 from rfl]
      simp only [F_D_agreedCouples_9, if_neg g]
    · obtain ⟨t1, o1, w1⟩ := y2 t ht
      obtain ⟨t2, o2, w2⟩ := z2 t1 o1
      refine ⟨t2, o2, ?_⟩
      rw [← w2, ← w1, show nI 0 = 0 from rfl]
      simp only [F_R_signs_10, if_neg g]
