/-! ===== joined: two flights ===== -/
def sH (H : Nat → Nat) : Nat → Nat
  | 0 => 0
  | n + 1 => sH H n + H n
/-- a flight's heights, for both -/
def HB (a b : Mem) (f z : Nat) (H : Nat → Nat) : Prop := f < 6 ∧ 1 ≤ z ∧ z ≤ 16 ∧ a 4 f = nI z ∧ b 127 f = nI z ∧ ∀ i, i < z → 5 ≤ H i ∧ H i ≤ 40 ∧ a 3 (16 * f + i) = nI (H i) ∧ b 128 (16 * f + i) = nI (H i)
theorem sH_le {H : Nat → Nat} : ∀ n, (∀ i, i < n → H i ≤ 40) → sH H n ≤ 40 * n
  | 0, _ => Nat.le_refl 0
  | n + 1, h => by
    have h1 := sH_le n (fun i hi => h i (by omega))
    have h2 := h n (by omega)
    show sH H n + H n ≤ _
    omega
theorem HB_sz {a b : Mem} {f z : Nat} {H : Nat → Nat} (h : HB a b f z H) : F_H_size 2 (nI f) a = some (nI z, a) ∧ ld b 127 (nI f) = some (nI z) := by
  obtain ⟨f6, -, -, e1, e2, -⟩ := h
  exact ⟨by rw [H_size (c := 4) rfl rfl rfl rfl f6, e1], (ld_in rfl (show f < 6 from f6) (by decide)).trans (congrArg some e2)⟩
theorem HB_at {a b : Mem} {f z i : Nat} {H : Nat → Nat} (h : HB a b f z H) (hi : i < z) : F_H_get 2 0 (nI f) (nI i) a = some (nI (H i), a) ∧ ld b 128 (16 * nI f + nI i) = some (nI (H i)) := by
  obtain ⟨f6, -, z16, -, -, e⟩ := h
  obtain ⟨-, -, e1, e2⟩ := e i hi
  refine ⟨?_, ?_⟩
  · have := H_get (s := a) (h0 := 2) (c := 3) (t := 0) (f := f) (i := i) rfl rfl rfl rfl (by decide) f6 (by omega)
    rw [show 96 * 0 + 16 * f + i = 16 * f + i by omega, e1] at this
    exact this
  · rw [n16]
    exact (ld_in rfl (show 16 * f + i < 96 by omega) (by decide)).trans (congrArg some e2)
theorem lv27n {a b : Mem} {g z A : Nat} {H : Nat → Nat} {x1 x3 x5 : Int32} {k6 : Int32 → Int32 → Int32 → Int32 → Int32 → Mem → Option (Int32 × Mem)} (h : HB a b g z H) (hA : A < 2 ^ 31) : ∀ (q j m : Nat), j + q = z → q < m → A ≤ sH H j → F_R_levels_27 k6 m x1 (nI g) x3 (nI A) x5 (nI (sH H j)) (nI j) b = k6 x1 (nI g) x3 (nI A) (x5 + 1) b := by
  intro q
  induction q with
  | zero =>
    intro j m hj hm hs
    obtain ⟨m, rfl⟩ : ∃ k, m = k + 1 := ⟨m - 1, by omega⟩
    have z16 := h.2.2.1
    simp only [F_R_levels_27, (HB_sz h).2, Option.bind_some, if_pos (show nI z ≤ nI j from nI_le (by omega) (by omega))]
  | succ q ih =>
    intro j m hj hm hs
    obtain ⟨m, rfl⟩ : ∃ k, m = k + 1 := ⟨m - 1, by omega⟩
    have z16 := h.2.2.1
    have hb := sH_le (H := H) (j + 1) (fun i hi => (h.2.2.2.2.2 i (by omega)).2.1)
    have h5 := (h.2.2.2.2.2 j (by omega)).1
    have e : sH H (j + 1) = sH H j + H j := rfl
    have i1 := ih (j + 1) m (by omega) (by omega) (by omega)
    rw [← i1]
    simp only [F_R_levels_27, (HB_sz h).2, Option.bind_some, if_neg (show ¬ nI z ≤ nI j from nI_ge (by omega) (by omega)), (HB_at h (show j < z by omega)).2, nI_add, ← e, if_neg (show ¬ nI (sH H (j + 1)) = nI A from fun q => absurd ((nI_eq (by omega) hA).mp q) (by omega)), nI_1]
theorem lv27 {a b : Mem} {g z A : Nat} {H : Nat → Nat} {x1 x5 : Int32} {k k' : Int32 → Int32 → Int32 → Int32 → Int32 → Mem → Option (Int32 × Mem)} (h : HB a b g z H) (hA : A < 2 ^ 31) (c : Nat) : ∀ (q j m m' : Nat), j + q = z → q < m → q < m' → ∃ e, F_U_commonHeights_23 k m x1 (nI g) (nI c) (nI A) x5 (nI (sH H j)) (nI j) a = k x1 (nI g) (nI (c + e)) (nI A) (x5 + 1) a ∧ F_R_levels_27 k' m' x1 (nI g) (nI (c + if sH H j = A then 1 else 0)) (nI A) x5 (nI (sH H j)) (nI j) b = k' x1 (nI g) (nI (c + e)) (nI A) (x5 + 1) b := by
  intro q
  induction q with
  | zero =>
    intro j m m' hj hm hm'
    obtain ⟨m, rfl⟩ : ∃ k, m = k + 1 := ⟨m - 1, by omega⟩
    obtain ⟨m', rfl⟩ : ∃ k, m' = k + 1 := ⟨m' - 1, by omega⟩
    have z16 := h.2.2.1
    have hb := sH_le (H := H) j (fun i hi => (h.2.2.2.2.2 i (by omega)).2.1)
    have g1 : nI z ≤ nI j := nI_le (by omega) (by omega)
    by_cases d : sH H j = A
    · refine ⟨1, ?_, ?_⟩
      · simp only [F_U_commonHeights_23, (HB_sz h).1, Option.bind_some, if_pos g1, d, if_true, nI_1]
      · simp only [F_R_levels_27, (HB_sz h).2, Option.bind_some, if_pos g1, d, if_true]
    · refine ⟨0, ?_, ?_⟩
      · simp only [F_U_commonHeights_23, (HB_sz h).1, Option.bind_some, if_pos g1, if_neg (show ¬ nI A = nI (sH H j) from fun q => d ((nI_eq hA (by omega)).mp q).symm), Int32.add_zero, Nat.add_zero]
      · simp only [F_R_levels_27, (HB_sz h).2, Option.bind_some, if_pos g1, if_neg d]
  | succ q ih =>
    intro j m m' hj hm hm'
    have z16 := h.2.2.1
    have hb := sH_le (H := H) j (fun i hi => (h.2.2.2.2.2 i (by omega)).2.1)
    have g1 : ¬ nI z ≤ nI j := nI_ge (by omega) (by omega)
    by_cases d : A ≤ sH H j
    · have hn := fun x3 => lv27n (x1 := x1) (x3 := x3) (x5 := x5) (k6 := k') h hA (q + 1) j m' hj hm' d
      obtain ⟨m, rfl⟩ : ∃ k, m = k + 1 := ⟨m - 1, by omega⟩
      have g2 : nI A ≤ nI (sH H j) := nI_le d (by omega)
      refine ⟨if sH H j = A then 1 else 0, ?_, hn _⟩
      by_cases d2 : sH H j = A
      · simp only [F_U_commonHeights_23, (HB_sz h).1, Option.bind_some, if_neg g1, if_pos g2, d2, if_true, nI_1]
        rw [if_pos (show nI A ≤ nI A from nI_le (Nat.le_refl A) hA)]
      · simp only [F_U_commonHeights_23, (HB_sz h).1, Option.bind_some, if_neg g1, if_pos g2, if_neg d2, if_neg (show ¬ nI A = nI (sH H j) from fun q => d2 ((nI_eq hA (by omega)).mp q).symm), Int32.add_zero, Nat.add_zero]
    · obtain ⟨m, rfl⟩ : ∃ k, m = k + 1 := ⟨m - 1, by omega⟩
      obtain ⟨m', rfl⟩ : ∃ k, m' = k + 1 := ⟨m' - 1, by omega⟩
      have hb1 := sH_le (H := H) (j + 1) (fun i hi => (h.2.2.2.2.2 i (by omega)).2.1)
      obtain ⟨e, z1, z2⟩ := ih (j + 1) m m' (by omega) (by omega) (by omega)
      have es : sH H (j + 1) = sH H j + H j := rfl
      refine ⟨e, ?_, ?_⟩
      · rw [← z1]
        simp only [F_U_commonHeights_23, (HB_sz h).1, Option.bind_some, if_neg g1, if_neg (show ¬ nI A ≤ nI (sH H j) from nI_ge (by omega) hA), (HB_at h (show j < z by omega)).1, nI_add, ← es, nI_1]
      · rw [← z2, if_neg (show ¬ sH H j = A by omega)]
        by_cases d2 : sH H (j + 1) = A
        · rw [if_pos d2]
          simp only [F_R_levels_27, (HB_sz h).2, Option.bind_some, if_neg g1, (HB_at h (show j < z by omega)).2, nI_add, ← es, if_pos (show nI (sH H (j + 1)) = nI A from by rw [d2]), nI_1, Nat.add_zero]
        · rw [if_neg d2]
          simp only [F_R_levels_27, (HB_sz h).2, Option.bind_some, if_neg g1, (HB_at h (show j < z by omega)).2, nI_add, ← es, if_neg (show ¬ nI (sH H (j + 1)) = nI A from fun q => d2 ((nI_eq (by omega) hA).mp q)), nI_1, Nat.add_zero]
theorem lv6 {a b : Mem} {f g y z : Nat} {G H : Nat → Nat} (h : HB a b g z H) (hf : HB a b f y G) : ∀ (q i m m' c : Nat), i + q = y → q < m → q < m' → ∃ v, F_U_commonHeights_6 m (nI f) (nI g) (nI c) (nI (sH G i)) (nI i) a = some (v, a) ∧ F_R_levels_6 m' (nI f) (nI g) (nI c) (nI (sH G i)) (nI i) b = some (v, b) := by
  intro q
  induction q with
  | zero =>
    intro i m m' c hi hm hm'
    obtain ⟨m, rfl⟩ : ∃ k, m = k + 1 := ⟨m - 1, by omega⟩
    obtain ⟨m', rfl⟩ : ∃ k, m' = k + 1 := ⟨m' - 1, by omega⟩
    have z16 := hf.2.2.1
    have g1 : nI y ≤ nI i := nI_le (by omega) (by omega)
    refine ⟨nI c, ?_, ?_⟩
    · simp only [F_U_commonHeights_6, (HB_sz hf).1, Option.bind_some, if_pos g1]
    · simp only [F_R_levels_6, (HB_sz hf).2, Option.bind_some, if_pos g1]
  | succ q ih =>
    intro i m m' c hi hm hm'
    obtain ⟨m, rfl⟩ : ∃ k, m = k + 1 := ⟨m - 1, by omega⟩
    obtain ⟨m', rfl⟩ : ∃ k, m' = k + 1 := ⟨m' - 1, by omega⟩
    have y16 := hf.2.2.1
    have z16 := h.2.2.1
    have g1 : ¬ nI y ≤ nI i := nI_ge (by omega) (by omega)
    have hb1 := sH_le (H := G) (i + 1) (fun j hj => (hf.2.2.2.2.2 j (by omega)).2.1)
    have h5 := (hf.2.2.2.2.2 i (by omega)).1
    have es : sH G (i + 1) = sH G i + G i := rfl
    obtain ⟨e, z1, z2⟩ := lv27 (x1 := nI f) (x5 := nI i) (k := F_U_commonHeights_6 m) (k' := F_R_levels_6 m') h (A := sH G (i + 1)) (by omega) c z 0 gF gF (by omega) (by rw [gF_eq]; omega) (by rw [gF_eq]; omega)
    rw [if_neg (show ¬ sH H 0 = sH G (i + 1) from fun q => by
      have q : 0 = sH G (i + 1) := q
      omega), nI_1] at z2
    rw [nI_1] at z1
    have z1 : F_U_commonHeights_23 (F_U_commonHeights_6 m) gF (nI f) (nI g) (nI c) (nI (sH G (i + 1))) (nI i) 0 0 a = _ := z1
    have z2 : F_R_levels_27 (F_R_levels_6 m') gF (nI f) (nI g) (nI c) (nI (sH G (i + 1))) (nI i) 0 0 b = _ := z2
    obtain ⟨v, y1, y2⟩ := ih (i + 1) m m' (c + e) (by omega) (by omega) (by omega)
    refine ⟨v, ?_, ?_⟩
    · rw [← y1, ← z1]
      simp only [F_U_commonHeights_6, (HB_sz hf).1, Option.bind_some, if_neg g1, (HB_at hf (show i < y by omega)).1, nI_add, ← es]
    · rw [← y2, ← z2]
      simp only [F_R_levels_6, (HB_sz hf).2, Option.bind_some, if_neg g1, (HB_at hf (show i < y by omega)).2, nI_add, ← es]
