theorem fl5 {h n : Nat} {v : Int32} (h1 : kd h = 1) (h2 : ln h = n) (hn : n < 2 ^ 31) : ∀ (q k m : Nat) (s : Mem), k + q = n → q < m → F_JA_fill_5 m h v (nI k) (nI n) s = some (0, rp s h (fun i => if k ≤ i ∧ i < n then v else s h i)) := by
  intro q
  induction q with
  | zero =>
    intro k m s hk hm
    obtain ⟨m, rfl⟩ : ∃ m', m = m' + 1 := ⟨m - 1, by omega⟩
    have e2 : (fun i => if k ≤ i ∧ i < n then v else s h i) = s h := by
      funext i
      exact if_neg (by omega)
    simp only [F_JA_fill_5, if_pos (nI_le (show n ≤ k by omega) (show k < 2 ^ 31 by omega)), e2, rp_id]
  | succ q ih =>
    intro k m s hk hm
    obtain ⟨m, rfl⟩ : ∃ m', m = m' + 1 := ⟨m - 1, by omega⟩
    simp only [F_JA_fill_5, if_neg (show ¬ nI n ≤ nI k from nI_ge (by omega) (by omega))]
    rw [sd_in (c := h) h1 (show k < ln h by omega) (by omega)]
    simp only [Option.bind_some, nI_1]
    rw [ih (k + 1) m (mw s h k v) (by omega) (by omega), mw_rp s, rp_rp]
    congr 3
    funext i
    rw [rp_at]
    unfold up
    by_cases c1 : k + 1 ≤ i ∧ i < n
    · rw [if_pos c1, if_pos (by omega)]
    · rw [if_neg c1]
      by_cases c2 : i = k
      · rw [if_pos c2, if_pos (by omega)]
      · rw [if_neg c2, if_neg (by omega)]
theorem cf2 {x1 : Int32} : ∀ (q k m : Nat) (b : Mem), k + q = 10 → q < m → F_R_countsFrom_2 m x1 (nI k) b = F_R_countsFrom_14 gF x1 (rp b 161 (fun i => if k ≤ i ∧ i < 10 then 0 else b 161 i)) := by
  intro q
  induction q with
  | zero =>
    intro k m b hk hm
    obtain ⟨m, rfl⟩ : ∃ m', m = m' + 1 := ⟨m - 1, by omega⟩
    have e2 : (fun i => if k ≤ i ∧ i < 10 then 0 else b 161 i) = b 161 := by
      funext i
      exact if_neg (by omega)
    simp only [F_R_countsFrom_2, if_pos (show (10 : Int32) ≤ nI k from nI_le (a := 10) (by omega) (by omega)), e2, rp_id]
  | succ q ih =>
    intro k m b hk hm
    obtain ⟨m, rfl⟩ : ∃ m', m = m' + 1 := ⟨m - 1, by omega⟩
    simp only [F_R_countsFrom_2, if_neg (show ¬ (10 : Int32) ≤ nI k from nI_ge (b := 10) (by omega) (by omega))]
    rw [sd_in (c := 161) rfl (show k < 10 by omega) (by decide)]
    simp only [Option.bind_some, nI_1]
    rw [ih (k + 1) m (mw b 161 k 0) (by omega) (by omega), mw_rp b, rp_rp]
    congr 2
    funext i
    rw [rp_at]
    unfold up
    by_cases c1 : k + 1 ≤ i ∧ i < 10
    · rw [if_pos c1, if_pos (by omega)]
    · rw [if_neg c1]
      by_cases c2 : i = k
      · rw [if_pos c2, if_pos (by omega)]
      · rw [if_neg c2, if_neg (by omega)]
/-- the class counts all digits -/
theorem cd_p {d : Nat → Nat} {n : Nat} {a : Mem} (hn : n ≤ 10) (hd : ∀ j, j < n → d j ≤ 9) (e1 : a 34 1 = nI n) (e2 : ∀ j, j < n → a 35 j = nI (d j)) : ∃ a', F_D_countDigits a = some (0, a') ∧ (∀ k, k < 10 → a' 104 k = nI (cg d 0 n k)) ∧ ∀ c, c ≠ 104 → a' c = a c := by
  have hf : F_JA_fill 104 0 a = some (0, rp a 104 (fun i => if 0 ≤ i ∧ i < 10 then 0 else a 104 i)) := by
    have := fl5 (h := 104) (n := 10) (v := 0) rfl rfl (by decide) 10 0 gF a rfl (by rw [gF_eq]; omega)
    exact this
  obtain ⟨a', z1, z2, z3⟩ := cd6 hn hd n 0 gF (rp a 104 (fun i => if 0 ≤ i ∧ i < 10 then 0 else a 104 i)) (by omega) (by rw [gF_eq]; omega) e1 e2 (fun k hk => by
    rw [rp_at]
    exact if_pos ⟨Nat.zero_le k, hk⟩)
  have z1 : F_D_countDigits_6 gF 0 (rp a 104 (fun i => if 0 ≤ i ∧ i < 10 then 0 else a 104 i)) = some (0, a') := z1
  refine ⟨a', ?_, z2, fun c hc => by rw [z3 c hc, rp_o hc]⟩
  simp only [F_D_countDigits, hf, Option.bind_some, z1]
/-- the reference counts the digits from lo on -/
theorem cf_p {d : Nat → Nat} {n lo : Nat} {b : Mem} (hn : n ≤ 10) (hlo : lo ≤ n) (hd : ∀ j, j < n → d j ≤ 9) (e1 : b 123 64 = nI n) (e2 : ∀ j, j < n → b 159 j = nI (d j)) : ∃ b', F_R_countsFrom (nI lo) b = some (0, b') ∧ (∀ k, k < 10 → b' 161 k = nI (cg d lo (n - lo) k)) ∧ ∀ c, c ≠ 161 → b' c = b c := by
  obtain ⟨b', z1, z2, z3⟩ := cf14 (lo := lo) hn hd (n - lo) 0 gF (rp b 161 (fun i => if 0 ≤ i ∧ i < 10 then 0 else b 161 i)) (by omega) (by rw [gF_eq]; omega) e1 e2 (fun k hk => by
    rw [rp_at]
    exact if_pos ⟨Nat.zero_le k, hk⟩)
  refine ⟨b', ?_, z2, fun c hc => by rw [z3 c hc, rp_o hc]⟩
  exact (cf2 (x1 := nI lo) 10 0 gF b rfl (by rw [gF_eq]; omega)).trans z1
