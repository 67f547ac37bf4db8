theorem nx4 {n : Nat} {d : Nat → Nat} {a b : Mem} (hn : n ≤ 10) (h : DG n d a b) : ∀ (p m m' : Nat), p + 1 < n → p + 1 < m → p + 1 < m' → ∃ (v : Int32) (a' b' : Mem), (v = 0 ∨ v = 1) ∧ F_D_goToNext_4 m (nI n) (nI p) a = some (v, a') ∧ F_R_findsNext_5 m' (nI p) b = some (v, b') ∧ (v = 1 → ∀ k, k < n → b' 160 k = a' 103 k) ∧ (∀ x, x ≠ 103 → a' x = a x) ∧ ∀ x, x ≠ 160 → b' x = b x := by
  intro p
  induction p with
  | zero =>
    intro m m' hp hm hm'
    obtain ⟨m, rfl⟩ : ∃ k, m = k + 1 + 1 := ⟨m - 2, by omega⟩
    obtain ⟨m', rfl⟩ : ∃ k, m' = k + 1 + 1 := ⟨m' - 2, by omega⟩
    obtain ⟨a0, b0, d0⟩ := h.1 0 (by omega)
    obtain ⟨a1, b1, d1⟩ := h.1 1 (by omega)
    have la0 : ld a 103 (nI 0) = some (nI (d 0)) := (ld_in rfl (show 0 < 10 by omega) (by decide)).trans (congrArg some a0)
    have la1 : ld a 103 (nI 0 + 1) = some (nI (d 1)) := (ld_in (c := 103) (k := 1) rfl (by decide) (by decide)).trans (congrArg some a1)
    have lb0 : ld b 159 (nI 0) = some (nI (d 0)) := (ld_in rfl (show 0 < 10 by omega) (by decide)).trans (congrArg some b0)
    have lb1 : ld b 159 (nI 0 + 1) = some (nI (d 1)) := (ld_in (c := 159) (k := 1) rfl (by decide) (by decide)).trans (congrArg some b1)
    have e3 : nI n - 1 = nI (0 + 1 + (n - 2)) := by
      rw [show nI n - 1 = nI (n - 1) from n_sub (b := 1) (by omega)]
      congr 1
      omega
    by_cases c : d 0 < d 1
    · have gv : nI (d 0) < nI (d 1) := nI_lt c (by omega)
      obtain ⟨a', b', z1, z2, z3, z4, z5⟩ := nx27 (p := 0) hn hp c (n - 2) gF gF a b (by omega) (by rw [gF_eq]; omega) (by rw [gF_eq]; omega) h
      refine ⟨1, a', b', Or.inr rfl, ?_, ?_, fun _ => z3, z4, z5⟩
      · simp only [F_D_goToNext_4, show (nI 0 < 0) = False from by decide, if_false, la0, la1, Option.bind_some, if_pos gv, if_pos (show 0 ≤ nI 0 from by decide), e3, z1]
      · simp only [F_R_findsNext_5, show (nI 0 < 0) = False from by decide, if_false, lb0, lb1, Option.bind_some, if_pos gv, if_pos (show 0 ≤ nI 0 from by decide), h.2, e3, z2]
    · have gv : ¬ nI (d 0) < nI (d 1) := nI_nlt (by omega) (by omega)
      refine ⟨0, a, b, Or.inl rfl, ?_, ?_, fun q => absurd q (by decide), fun _ _ => rfl, fun _ _ => rfl⟩
      · rw [F_D_goToNext_4]
        simp only [show (nI 0 < 0) = False from by decide, if_false, la0, la1, Option.bind_some, if_neg gv]
        rw [F_D_goToNext_4, if_pos (show nI 0 + (-1) < 0 from by decide), if_neg (show ¬ 0 ≤ nI 0 + (-1) from by decide)]
      · rw [F_R_findsNext_5]
        simp only [show (nI 0 < 0) = False from by decide, if_false, lb0, lb1, Option.bind_some, if_neg gv]
        rw [F_R_findsNext_5, if_pos (show nI 0 - 1 < 0 from by decide), if_neg (show ¬ 0 ≤ nI 0 - 1 from by decide)]
  | succ p ih =>
    intro m m' hp hm hm'
    obtain ⟨m, rfl⟩ : ∃ k, m = k + 1 := ⟨m - 1, by omega⟩
    obtain ⟨m', rfl⟩ : ∃ k, m' = k + 1 := ⟨m' - 1, by omega⟩
    obtain ⟨a0, b0, d0⟩ := h.1 (p + 1) (by omega)
    obtain ⟨a1, b1, d1⟩ := h.1 (p + 1 + 1) (by omega)
    have la0 : ld a 103 (nI (p + 1)) = some (nI (d (p + 1))) := (ld_in rfl (show p + 1 < 10 by omega) (by decide)).trans (congrArg some a0)
    have la1 : ld a 103 (nI (p + 1 + 1)) = some (nI (d (p + 1 + 1))) := (ld_in rfl (show p + 1 + 1 < 10 by omega) (by decide)).trans (congrArg some a1)
    have lb0 : ld b 159 (nI (p + 1)) = some (nI (d (p + 1))) := (ld_in rfl (show p + 1 < 10 by omega) (by decide)).trans (congrArg some b0)
    have lb1 : ld b 159 (nI (p + 1 + 1)) = some (nI (d (p + 1 + 1))) := (ld_in rfl (show p + 1 + 1 < 10 by omega) (by decide)).trans (congrArg some b1)
    have g0 : ¬ nI (p + 1) < 0 := nI_pos (show p + 1 < 2 ^ 31 by omega)
    have g1 : 0 ≤ nI (p + 1) := nI_pos' (show p + 1 < 2 ^ 31 by omega)
    have e3 : nI n - 1 = nI (p + 1 + 1 + (n - (p + 3))) := by
      rw [show nI n - 1 = nI (n - 1) from n_sub (b := 1) (by omega)]
      congr 1
      omega
    by_cases c : d (p + 1) < d (p + 1 + 1)
    · have gv : nI (d (p + 1)) < nI (d (p + 1 + 1)) := nI_lt c (by omega)
      obtain ⟨a', b', z1, z2, z3, z4, z5⟩ := nx27 (p := p + 1) hn hp c (n - (p + 3)) gF gF a b (by omega) (by rw [gF_eq]; omega) (by rw [gF_eq]; omega) h
      refine ⟨1, a', b', Or.inr rfl, ?_, ?_, fun _ => z3, z4, z5⟩
      · simp only [F_D_goToNext_4, if_neg g0, la0, nI_1, la1, Option.bind_some, if_pos gv, if_pos g1, e3, z1]
      · simp only [F_R_findsNext_5, if_neg g0, lb0, nI_1, lb1, Option.bind_some, if_pos gv, if_pos g1, h.2, e3, z2]
    · have gv : ¬ nI (d (p + 1)) < nI (d (p + 1 + 1)) := nI_nlt (by omega) (by omega)
      obtain ⟨v, a', b', v1, z1, z2, z3⟩ := ih m m' (by omega) (by omega) (by omega)
      have e1 : nI (p + 1) + (-1) = nI p := by rw [m1_add]; exact nI_pred p
      have e2 : nI (p + 1) - 1 = nI p := nI_pred p
      refine ⟨v, a', b', v1, ?_, ?_, z3⟩
      · rw [← z1]
        simp only [F_D_goToNext_4, if_neg g0, la0, nI_1, la1, Option.bind_some, if_neg gv, e1]
      · rw [← z2]
        simp only [F_R_findsNext_5, if_neg g0, lb0, nI_1, lb1, Option.bind_some, if_neg gv, e2]
theorem nx_p {n : Nat} {d : Nat → Nat} {a b : Mem} (hn : n ≤ 10) (h : DG n d a b) : ∃ (v : Int32) (a' b' : Mem), (v = 0 ∨ v = 1) ∧ F_D_goToNext (nI n) a = some (v, a') ∧ F_R_findsNext b = some (v, b') ∧ (v = 1 → ∀ k, k < n → b' 160 k = a' 103 k) ∧ (∀ x, x ≠ 103 → a' x = a x) ∧ ∀ x, x ≠ 160 → b' x = b x := by
  rcases (show n = 0 ∨ n = 1 ∨ 2 ≤ n by omega) with e | e | e
  · subst e
    refine ⟨0, a, b, Or.inl rfl, ?_, ?_, fun q => absurd q (by decide), fun _ _ => rfl, fun _ _ => rfl⟩
    · obtain ⟨N, hN⟩ : ∃ N, gF = N + 1 := ⟨999999, gF_eq⟩
      rw [F_D_goToNext, hN, F_D_goToNext_4, if_pos (show nI 0 - 2 < 0 from by decide), if_neg (show ¬ 0 ≤ nI 0 - 2 from by decide)]
    · obtain ⟨N, hN⟩ : ∃ N, gF = N + 1 := ⟨999999, gF_eq⟩
      rw [F_R_findsNext, hN, F_R_findsNext_5, h.2, if_pos (show nI 0 - 2 < 0 from by decide), if_neg (show ¬ 0 ≤ nI 0 - 2 from by decide)]
  · subst e
    refine ⟨0, a, b, Or.inl rfl, ?_, ?_, fun q => absurd q (by decide), fun _ _ => rfl, fun _ _ => rfl⟩
    · obtain ⟨N, hN⟩ : ∃ N, gF = N + 1 := ⟨999999, gF_eq⟩
      rw [F_D_goToNext, hN, F_D_goToNext_4, if_pos (show nI 1 - 2 < 0 from by decide), if_neg (show ¬ 0 ≤ nI 1 - 2 from by decide)]
    · obtain ⟨N, hN⟩ : ∃ N, gF = N + 1 := ⟨999999, gF_eq⟩
      rw [F_R_findsNext, hN, F_R_findsNext_5, h.2, if_pos (show nI 1 - 2 < 0 from by decide), if_neg (show ¬ 0 ≤ nI 1 - 2 from by decide)]
  · obtain ⟨v, a', b', v1, z1, z2, z3⟩ := nx4 hn h (n - 2) gF gF (by omega) (by rw [gF_eq]; omega) (by rw [gF_eq]; omega)
    have e2 : nI n - 2 = nI (n - 2) := n_sub (b := 2) e
    refine ⟨v, a', b', v1, ?_, ?_, z3⟩
    · rw [F_D_goToNext, e2]; exact z1
    · rw [F_R_findsNext, h.2, e2]; exact z2
