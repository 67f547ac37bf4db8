theorem cg_s (d : Nat → Nat) (lo k : Nat) : ∀ q, cg d lo (q + 1) k = cg d (lo + 1) q k + if d lo = k then 1 else 0
  | 0 => by
    show 0 + (if d (lo + 0) = k then 1 else 0) = 0 + if d lo = k then 1 else 0
    rw [Nat.add_zero]
  | q + 1 => by
    have h := cg_s d lo k q
    show cg d lo (q + 1) k + (if d (lo + (q + 1)) = k then 1 else 0) = (cg d (lo + 1) q k + if d (lo + 1 + q) = k then 1 else 0) + if d lo = k then 1 else 0
    rw [h, show lo + (q + 1) = lo + 1 + q by omega]
    omega
theorem ra7 {d : Nat → Nat} {n : Nat} (hn : n ≤ 10) (hd : ∀ j, j < n → d j ≤ 9) : ∀ (q j m m' : Nat) (v : Int32) (a b : Mem), j + q = n → q < m → q < m' → a 34 1 = nI n → (∀ j, j < n → a 35 j = nI (d j)) → b 123 64 = nI n → (∀ j, j < n → b 159 j = nI (d j)) → (∀ k, k < 10 → a 104 k = nI (cg d j (n - j) k)) → ∃ (v' : Int32) (a' b' : Mem), F_D_rankOfRow_7 m v (nI j) a = some (v', a') ∧ F_R_rowNumber_4 m' v (nI j) b = some (v', b') ∧ (∀ x, x ≠ 104 → a' x = a x) ∧ ∀ x, x ≠ 161 → b' x = b x := by
  intro q
  induction q with
  | zero =>
    intro j m m' v a b hj hm hm' e1 e2 f1 f2 h
    obtain ⟨m, rfl⟩ : ∃ m', m = m' + 1 := ⟨m - 1, by omega⟩
    obtain ⟨m', rfl⟩ : ∃ k, m' = k + 1 := ⟨m' - 1, by omega⟩
    have g : nI n ≤ nI j := nI_le (by omega) (by omega)
    refine ⟨v, a, b, ?_, ?_, fun _ _ => rfl, fun _ _ => rfl⟩
    · simp only [F_D_rankOfRow_7, e1, if_pos g]
    · simp only [F_R_rowNumber_4, f1, if_pos g]
  | succ q ih =>
    intro j m m' v a b hj hm hm' e1 e2 f1 f2 h
    obtain ⟨m, rfl⟩ : ∃ m', m = m' + 1 := ⟨m - 1, by omega⟩
    obtain ⟨m', rfl⟩ : ∃ k, m' = k + 1 := ⟨m' - 1, by omega⟩
    have g : ¬ nI n ≤ nI j := nI_ge (by omega) (by omega)
    have wa : F_W_at 34 (nI j) a = some (nI (d j), a) := (W_at (o := 34) (c := 35) (len := 10) rfl rfl rfl rfl (by decide) a (show j < 10 by omega)).trans (by rw [e2 j (by omega)])
    obtain ⟨b1, y1, y2, y3⟩ := cf_p (lo := j) hn (by omega) hd f1 f2
    have hs : ∀ k, cg d j (n - j) k = cg d (j + 1) (n - (j + 1)) k + if d j = k then 1 else 0 := fun k => by
      rw [show n - j = n - (j + 1) + 1 by omega]
      exact cg_s d j k _
    have hCT : CT (cg d j (n - j)) a b1 := fun k hk => ⟨Nat.le_trans (cg_le d j k _) (by omega), h k hk, y2 k hk⟩
    have h1 : 1 ≤ cg d j (n - j) (d j) := by rw [hs, if_pos rfl]; omega
    obtain ⟨v1, a2, b2, z1, z2, z3, z4, z5⟩ := ra17 (k := F_D_rankOfRow_7 m) (k' := F_R_rowNumber_4 m') (hd j (by omega)) h1 (d j) 0 gF gF v a b1 hCT (by omega) (by rw [gF_eq]; have := hd j (by omega); omega) (by rw [gF_eq]; have := hd j (by omega); omega) (by rw [y3 159 (by decide)]; exact f2 j (by omega)) (show j < 10 by omega)
    have z1 : F_D_rankOfRow_17 (F_D_rankOfRow_7 m) gF v (nI j) (nI (d j)) 0 a = F_D_rankOfRow_7 m v1 (nI (j + 1)) (mw a2 104 (d j) (nI (cg d j (n - j) (d j) - 1))) := z1
    have z2 : F_R_rowNumber_13 (F_R_rowNumber_4 m') gF v (nI j) 0 b1 = F_R_rowNumber_4 m' v1 (nI (j + 1)) b2 := z2
    obtain ⟨v2, a3, b3, x1, x2, x3, x4⟩ := ih (j + 1) m m' v1 (mw a2 104 (d j) (nI (cg d j (n - j) (d j) - 1))) b2 (by omega) (by omega) (by omega) (by rw [mw_o (by decide), z4 34 (by decide)]; exact e1) (fun i hi => by rw [mw_o (by decide), z4 35 (by decide)]; exact e2 i hi) (by rw [z5 123 (by decide), y3 123 (by decide)]; exact f1) (fun i hi => by rw [z5 159 (by decide), y3 159 (by decide)]; exact f2 i hi) (fun k hk => by
      by_cases e : k = d j
      · rw [e, mw_y, hs, if_pos rfl, Nat.add_sub_cancel]
      · rw [mw_n e, (z3 k hk).2.1, hs, if_neg (fun q => e q.symm), Nat.add_zero])
    refine ⟨v2, a3, b3, ?_, ?_, fun x hx => by rw [x3 x hx, mw_o hx, z4 x hx], fun x hx => by rw [x4 x hx, z5 x hx, y3 x hx]⟩
    · simp only [F_D_rankOfRow_7, e1, if_neg g, wa, Option.bind_some, z1, x1]
    · simp only [F_R_rowNumber_4, f1, if_neg g, y1, Option.bind_some, z2, x2]
