/-- how many of the digits from lo on, q of them, are k -/
def cg (d : Nat → Nat) (lo : Nat) : Nat → Nat → Nat
  | 0, _ => 0
  | q + 1, k => cg d lo q k + if d (lo + q) = k then 1 else 0
theorem cg_le (d : Nat → Nat) (lo k : Nat) : ∀ q, cg d lo q k ≤ q
  | 0 => Nat.le_refl 0
  | q + 1 => by
    have := cg_le d lo k q
    show cg d lo q k + (if d (lo + q) = k then 1 else 0) ≤ q + 1
    split <;> omega
theorem cd6 {d : Nat → Nat} {n : Nat} (hn : n ≤ 10) (hd : ∀ j, j < n → d j ≤ 9) : ∀ (q j m : Nat) (a : Mem), j + q = n → q < m → a 34 1 = nI n → (∀ j, j < n → a 35 j = nI (d j)) → (∀ k, k < 10 → a 104 k = nI (cg d 0 j k)) → ∃ a', F_D_countDigits_6 m (nI j) a = some (0, a') ∧ (∀ k, k < 10 → a' 104 k = nI (cg d 0 n k)) ∧ ∀ c, c ≠ 104 → a' c = a c := by
  intro q
  induction q with
  | zero =>
    intro j m a hj hm e1 e2 e3
    obtain ⟨m, rfl⟩ : ∃ m', m = m' + 1 := ⟨m - 1, by omega⟩
    have : j = n := by omega
    subst this
    refine ⟨a, ?_, e3, fun _ _ => rfl⟩
    simp only [F_D_countDigits_6, e1, if_pos (nI_le (Nat.le_refl j) (show j < 2 ^ 31 by omega))]
  | succ q ih =>
    intro j m a hj hm e1 e2 e3
    obtain ⟨m, rfl⟩ : ∃ m', m = m' + 1 := ⟨m - 1, by omega⟩
    have d9 := hd j (by omega)
    have wa : F_W_at 34 (nI j) a = some (nI (d j), a) := (W_at (o := 34) (c := 35) (len := 10) rfl rfl rfl rfl (by decide) a (show j < 10 by omega)).trans (by rw [e2 j (by omega)])
    have hin : 0 ≤ nI (d j) ∧ nI (d j) ≤ 9 := ⟨nI_pos' (by omega), nI_le (b := 9) d9 (by decide)⟩
    have la : ld a 104 (nI (d j)) = some (nI (cg d 0 j (d j))) := (ld_in rfl (show d j < 10 by omega) (by decide)).trans (congrArg some (e3 _ (by omega)))
    have wr : ∀ v, sd a 104 (nI (d j)) v = some (mw a 104 (d j) v) := fun v => sd_in rfl (show d j < 10 by omega) (by decide)
    obtain ⟨a', z1, z2, z3⟩ := ih (j + 1) m (mw a 104 (d j) (nI (cg d 0 j (d j) + 1))) (by omega) (by omega) e1 e2 (fun k hk => by
      show _ = nI (cg d 0 j k + if d (0 + j) = k then 1 else 0)
      rw [Nat.zero_add]
      by_cases c : k = d j
      · rw [c, mw_y, if_pos rfl]
      · rw [mw_n c, if_neg (fun q => c q.symm)]
        exact e3 k hk)
    refine ⟨a', ?_, z2, fun c hc => by rw [z3 c hc, mw_o hc]⟩
    rw [← z1]
    simp only [F_D_countDigits_6, e1, if_neg (show ¬ nI n ≤ nI j from nI_ge (by omega) (by omega)), wa, Option.bind_some, C_within, b01, hin, and_self, not_true_eq_false, if_false, one0, la, nI_1, wr]
theorem cf14 {d : Nat → Nat} {n lo : Nat} (hn : n ≤ 10) (hd : ∀ j, j < n → d j ≤ 9) : ∀ (q p m : Nat) (b : Mem), lo + p + q = n → q < m → b 123 64 = nI n → (∀ j, j < n → b 159 j = nI (d j)) → (∀ k, k < 10 → b 161 k = nI (cg d lo p k)) → ∃ b', F_R_countsFrom_14 m (nI (lo + p)) b = some (0, b') ∧ (∀ k, k < 10 → b' 161 k = nI (cg d lo (n - lo) k)) ∧ ∀ c, c ≠ 161 → b' c = b c := by
  intro q
  induction q with
  | zero =>
    intro p m b hj hm e1 e2 e3
    obtain ⟨m, rfl⟩ : ∃ m', m = m' + 1 := ⟨m - 1, by omega⟩
    have : p = n - lo := by omega
    refine ⟨b, ?_, by rw [← this]; exact e3, fun _ _ => rfl⟩
    simp only [F_R_countsFrom_14, e1, if_pos (nI_le (show n ≤ lo + p by omega) (show lo + p < 2 ^ 31 by omega))]
  | succ q ih =>
    intro p m b hj hm e1 e2 e3
    obtain ⟨m, rfl⟩ : ∃ m', m = m' + 1 := ⟨m - 1, by omega⟩
    have d9 := hd (lo + p) (by omega)
    have l1 : ld b 159 (nI (lo + p)) = some (nI (d (lo + p))) := (ld_in rfl (Nat.lt_of_lt_of_le (show lo + p < 10 by omega) (by decide)) (by decide)).trans (congrArg some (e2 _ (by omega)))
    have la : ld b 161 (nI (d (lo + p))) = some (nI (cg d lo p (d (lo + p)))) := (ld_in rfl (show d (lo + p) < 10 by omega) (by decide)).trans (congrArg some (e3 _ (by omega)))
    have wr : ∀ v, sd b 161 (nI (d (lo + p))) v = some (mw b 161 (d (lo + p)) v) := fun v => sd_in rfl (show d (lo + p) < 10 by omega) (by decide)
    obtain ⟨b', z1, z2, z3⟩ := ih (p + 1) m (mw b 161 (d (lo + p)) (nI (cg d lo p (d (lo + p)) + 1))) (by omega) (by omega) e1 e2 (fun k hk => by
      show _ = nI (cg d lo p k + if d (lo + p) = k then 1 else 0)
      by_cases c : k = d (lo + p)
      · rw [c, mw_y, if_pos rfl]
      · rw [mw_n c, if_neg (fun q => c q.symm)]
        exact e3 k hk)
    refine ⟨b', ?_, z2, fun c hc => by rw [z3 c hc, mw_o hc]⟩
    rw [← z1]
    simp only [F_R_countsFrom_14, e1, if_neg (show ¬ nI n ≤ nI (lo + p) from nI_ge (by omega) (by omega)), l1, Option.bind_some, la, nI_1, wr, Nat.add_assoc]
