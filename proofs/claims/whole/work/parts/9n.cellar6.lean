theorem swC {a : Mem} {x y : Nat} (hx : x < 10) (hy : y < 10) : F_D_swapNext (nI x) (nI y) a = some (0, mw (mw a 103 x (a 103 y)) 103 y (a 103 x)) := by
  have i1 : 0 ≤ nI x ∧ nI x ≤ 10 - 1 := (rngF (n := 10) (by decide)).mpr ⟨x, hx, rfl⟩
  have i2 : 0 ≤ nI y ∧ nI y ≤ 10 - 1 := (rngF (n := 10) (by decide)).mpr ⟨y, hy, rfl⟩
  have lx : ld a 103 (nI x) = some (a 103 x) := ld_in rfl (show x < 10 from hx) (by decide)
  have ly : ld a 103 (nI y) = some (a 103 y) := ld_in rfl (show y < 10 from hy) (by decide)
  have wx : ∀ (t : Mem) (v : Int32), sd t 103 (nI x) v = some (mw t 103 x v) := fun t v => sd_in rfl (show x < 10 from hx) (by decide)
  have wy : ∀ (t : Mem) (v : Int32), sd t 103 (nI y) v = some (mw t 103 y v) := fun t v => sd_in rfl (show y < 10 from hy) (by decide)
  simp only [F_D_swapNext, C_within, Option.bind_some, b01, i1, i2, and_self, not_true_eq_false, if_false, lx, ly, wx, wy]
/-- the rest turned round, by both -/
theorem rvP {n : Nat} (hn : n ≤ 10) : ∀ (q lo hi m m' : Nat) (a b : Mem), hi ≤ lo + q → lo ≤ 20 → hi < n → q < m → q < m' → (∀ k, k < n → b 160 k = a 103 k) → ∃ (a' b' : Mem), F_D_goToNext_53 m (nI lo) (nI hi) a = some (1, a') ∧ F_R_findsNext_87 m' (nI hi) (nI lo) b = some (1, b') ∧ (∀ k, k < n → b' 160 k = a' 103 k) ∧ (∀ x, x ≠ 103 → a' x = a x) ∧ ∀ x, x ≠ 160 → b' x = b x := by
  intro q
  induction q with
  | zero =>
    intro lo hi m m' a b h1 h3 h2 hm hm' e
    obtain ⟨m, rfl⟩ : ∃ m', m = m' + 1 := ⟨m - 1, by omega⟩
    obtain ⟨m', rfl⟩ : ∃ k, m' = k + 1 := ⟨m' - 1, by omega⟩
    have g : nI hi ≤ nI lo := nI_le (by omega) (by omega)
    refine ⟨a, b, ?_, ?_, e, fun _ _ => rfl, fun _ _ => rfl⟩
    · simp only [F_D_goToNext_53, if_pos g]
    · simp only [F_R_findsNext_87, if_pos g]
  | succ q ih =>
    intro lo hi m m' a b h1 h3 h2 hm hm' e
    obtain ⟨m, rfl⟩ : ∃ m', m = m' + 1 := ⟨m - 1, by omega⟩
    obtain ⟨m', rfl⟩ : ∃ k, m' = k + 1 := ⟨m' - 1, by omega⟩
    by_cases c : hi ≤ lo
    · have g : nI hi ≤ nI lo := nI_le c (by omega)
      refine ⟨a, b, ?_, ?_, e, fun _ _ => rfl, fun _ _ => rfl⟩
      · simp only [F_D_goToNext_53, if_pos g]
      · simp only [F_R_findsNext_87, if_pos g]
    · have g : ¬ nI hi ≤ nI lo := nI_ge (by omega) (by omega)
      have l1 : ld b 160 (nI lo) = some (a 103 lo) := (ld_in rfl (show lo < 10 by omega) (by decide)).trans (congrArg some (e lo (by omega)))
      have l2 : ld b 160 (nI hi) = some (a 103 hi) := (ld_in rfl (show hi < 10 by omega) (by decide)).trans (congrArg some (e hi (by omega)))
      have w1 : ∀ (t : Mem) (v : Int32), sd t 160 (nI lo) v = some (mw t 160 lo v) := fun t v => sd_in rfl (show lo < 10 by omega) (by decide)
      have w2 : ∀ (t : Mem) (v : Int32), sd t 160 (nI hi) v = some (mw t 160 hi v) := fun t v => sd_in rfl (show hi < 10 by omega) (by decide)
      have e1 : nI hi + (-1) = nI (hi - 1) := by rw [m1_add]; exact n_sub (b := 1) (by omega)
      have e2 : nI hi - 1 = nI (hi - 1) := n_sub (b := 1) (by omega)
      obtain ⟨a', b', z1, z2, z3, z4, z5⟩ := ih (lo + 1) (hi - 1) m m' (mw (mw a 103 lo (a 103 hi)) 103 hi (a 103 lo)) (mw (mw b 160 lo (a 103 hi)) 160 hi (a 103 lo)) (by omega) (by omega) (by omega) (by omega) (by omega) (fun k hk => by
        by_cases q1 : k = hi
        · subst q1; rw [mw_y, mw_y]
        · by_cases q2 : k = lo
          · subst q2; rw [mw_n q1, mw_n q1, mw_y, mw_y]
          · rw [mw_n q1, mw_n q1, mw_n q2, mw_n q2]; exact e k hk)
      refine ⟨a', b', ?_, ?_, z3, fun x hx => by rw [z4 x hx, mw_o hx, mw_o hx], fun x hx => by rw [z5 x hx, mw_o hx, mw_o hx]⟩
      · rw [← z1]
        simp only [F_D_goToNext_53, if_neg g, swC (show lo < 10 by omega) (show hi < 10 by omega), Option.bind_some, nI_1, e1]
      · rw [← z2]
        simp only [F_R_findsNext_87, if_neg g, l1, l2, Option.bind_some, w1, w2, nI_1, e2]
