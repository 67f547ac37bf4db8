theorem CT_w {c : Nat → Nat} {a b : Mem} {y : Nat} (h : CT c a b) (v : Nat) (hv : v ≤ 10) : CT (fun k => if k = y then v else c k) (mw a 104 y (nI v)) (mw b 161 y (nI v)) := fun k hk => by
  show (if k = y then v else c k) ≤ 10 ∧ mw a 104 y (nI v) 104 k = nI (if k = y then v else c k) ∧ mw b 161 y (nI v) 161 k = nI (if k = y then v else c k)
  by_cases e : k = y
  · subst e
    rw [mw_y, mw_y, if_pos rfl]
    exact ⟨hv, rfl, rfl⟩
  · rw [mw_n e, mw_n e, if_neg e]
    exact h k hk
theorem ra17 {c : Nat → Nat} {dj j : Nat} {k k' : Int32 → Int32 → Mem → Option (Int32 × Mem)} (h9 : dj ≤ 9) (hcd : 1 ≤ c dj) : ∀ (q y m m' : Nat) (v : Int32) (a b : Mem), CT c a b → y + q = dj → q < m → q < m' → b 159 j = nI dj → j < 10 → ∃ (v' : Int32) (a' b' : Mem), F_D_rankOfRow_17 k m v (nI j) (nI dj) (nI y) a = k v' (nI (j + 1)) (mw a' 104 dj (nI (c dj - 1))) ∧ F_R_rowNumber_13 k' m' v (nI j) (nI y) b = k' v' (nI (j + 1)) b' ∧ CT c a' b' ∧ (∀ x, x ≠ 104 → a' x = a x) ∧ ∀ x, x ≠ 161 → b' x = b x := by
  intro q
  induction q with
  | zero =>
    intro y m m' v a b h hy hm hm' eb hj
    obtain ⟨m, rfl⟩ : ∃ m', m = m' + 1 := ⟨m - 1, by omega⟩
    obtain ⟨m', rfl⟩ : ∃ k, m' = k + 1 := ⟨m' - 1, by omega⟩
    have g : nI dj ≤ nI y := nI_le (by omega) (by omega)
    have hin : 0 ≤ nI dj ∧ nI dj ≤ 9 := ⟨nI_pos' (by omega), nI_le (b := 9) h9 (by decide)⟩
    have la : ld a 104 (nI dj) = some (nI (c dj)) := (ld_in rfl (show dj < 10 by omega) (by decide)).trans (congrArg some (h dj (by omega)).2.1)
    have wr : ∀ v, sd a 104 (nI dj) v = some (mw a 104 dj v) := fun v => sd_in rfl (show dj < 10 by omega) (by decide)
    have e1 : nI (c dj) - 1 = nI (c dj - 1) := n_sub (b := 1) hcd
    have l1 : ld b 159 (nI j) = some (nI dj) := (ld_in rfl (Nat.lt_of_lt_of_le (show j < 10 from hj) (by decide)) (by decide)).trans (congrArg some eb)
    refine ⟨v, a, b, ?_, ?_, h, fun _ _ => rfl, fun _ _ => rfl⟩
    · simp only [F_D_rankOfRow_17, if_pos g, C_within, Option.bind_some, b01, hin, and_self, not_true_eq_false, if_false, one0, la, e1, wr, nI_1]
    · simp only [F_R_rowNumber_13, l1, Option.bind_some, if_pos g, nI_1]
  | succ q ih =>
    intro y m m' v a b h hy hm hm' eb hj
    obtain ⟨m, rfl⟩ : ∃ m', m = m' + 1 := ⟨m - 1, by omega⟩
    obtain ⟨m', rfl⟩ : ∃ k, m' = k + 1 := ⟨m' - 1, by omega⟩
    have g : ¬ nI dj ≤ nI y := nI_ge (by omega) (by omega)
    have g10 : ¬ (10 : Int32) ≤ nI y := nI_ge (b := 10) (by omega) (by omega)
    have y10 : y < 10 := by omega
    have l1 : ld b 159 (nI j) = some (nI dj) := (ld_in rfl (Nat.lt_of_lt_of_le (show j < 10 from hj) (by decide)) (by decide)).trans (congrArg some eb)
    have la : ∀ t : Mem, ld t 104 (nI y) = some (t 104 y) := fun t => ld_in rfl (show y < 10 from y10) (by decide)
    have wa : ∀ (t : Mem) (v : Int32), sd t 104 (nI y) v = some (mw t 104 y v) := fun t v => sd_in rfl (show y < 10 from y10) (by decide)
    have lb : ∀ t : Mem, ld t 161 (nI y) = some (t 161 y) := fun t => ld_in rfl (show y < 10 from y10) (by decide)
    have wb : ∀ (t : Mem) (v : Int32), sd t 161 (nI y) v = some (mw t 161 y v) := fun t v => sd_in rfl (show y < 10 from y10) (by decide)
    obtain ⟨c10, ea, eb1⟩ := h y y10
    by_cases c0 : c y = 0
    · have g1 : nI (c y) ≤ 0 := by rw [c0]; decide
      have g2 : nI (c y) = 0 := by rw [c0]; rfl
      obtain ⟨v', a', b', z1, z2, z3, z4, z5⟩ := ih (y + 1) m m' v a b h (by omega) (by omega) (by omega) eb hj
      refine ⟨v', a', b', ?_, ?_, z3, z4, z5⟩
      · rw [← z1]
        simp only [F_D_rankOfRow_17, if_neg g, if_neg g10, la, ea, Option.bind_some, if_pos g1, nI_1]
      · rw [← z2]
        simp only [F_R_rowNumber_13, l1, Option.bind_some, if_neg g, lb, eb1, if_pos g2, nI_1]
    · have g1 : ¬ nI (c y) ≤ 0 := nI_ge (b := c y) (a := 0) (by omega) (by omega)
      have g2 : ¬ nI (c y) = 0 := nI_ne0 (by omega) (by omega)
      have e1 : nI (c y) - 1 = nI (c y - 1) := n_sub (b := 1) (by omega)
      obtain ⟨r, r1, r2⟩ := ar_p (CT_w (y := y) h (c y - 1) (by omega))
      have back : CT c (mw (mw a 104 y (nI (c y - 1))) 104 y (nI (c y))) (mw (mw b 161 y (nI (c y - 1))) 161 y (nI (c y))) := fun k hk => by
        by_cases e : k = y
        · subst e
          rw [mw_y, mw_y]
          exact ⟨c10, rfl, rfl⟩
        · rw [mw_n e, mw_n e, mw_n e, mw_n e]
          exact h k hk
      have e2 : nI (c y - 1) + 1 = nI (c y) := by rw [nI_1, show c y - 1 + 1 = c y by omega]
      obtain ⟨v', a', b', z1, z2, z3, z4, z5⟩ := ih (y + 1) m m' (v + r) _ _ back (by omega) (by omega) (by omega) (by rw [mw_o (by decide), mw_o (by decide)]; exact eb) hj
      refine ⟨v', a', b', ?_, ?_, z3, fun x hx => by rw [z4 x hx, mw_o hx, mw_o hx], fun x hx => by rw [z5 x hx, mw_o hx, mw_o hx]⟩
      · rw [← z1]
        simp only [F_D_rankOfRow_17, if_neg g, if_neg g10, la, ea, Option.bind_some, if_neg g1, e1, wa, r1, mw_y, e2]
        rw [nI_1]
      · rw [← z2]
        simp only [F_R_rowNumber_13, l1, Option.bind_some, if_neg g, lb, eb1, if_neg g2, e1, wb, r2, mw_y, e2]
        rw [nI_1]
