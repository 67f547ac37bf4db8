/-! ===== goes: nights in thought ===== -/
def sm (g : Nat → Int32) : Nat → Nat → Int32 → Int32
  | 0, _, v => v
  | n + 1, j, v => sm g n (j + 1) (v + g j)
theorem sm_c {g g' : Nat → Int32} : ∀ (n j : Nat) (v : Int32), (∀ k, j ≤ k → k < j + n → g k = g' k) → sm g n j v = sm g' n j v
  | 0, _, _, _ => rfl
  | n + 1, j, v, h => by
    show sm g n (j + 1) (v + g j) = sm g' n (j + 1) (v + g' j)
    rw [h j (Nat.le_refl j) (by omega)]
    exact sm_c n (j + 1) _ (fun k a b => h k (by omega) (by omega))
theorem sm_z {g : Nat → Int32} : ∀ (n j : Nat) (v : Int32), (∀ k, j ≤ k → k < j + n → g k = 0) → sm g n j v = v
  | 0, _, _, _ => rfl
  | n + 1, j, v, h => by
    show sm g n (j + 1) (v + g j) = v
    rw [h j (Nat.le_refl j) (by omega), Int32.add_zero]
    exact sm_z n (j + 1) v (fun k a b => h k (by omega) (by omega))
theorem sm_a {g : Nat → Int32} : ∀ (m n j : Nat) (v : Int32), sm g (m + n) j v = sm g n (j + m) (sm g m j v)
  | 0, n, j, v => by rw [Nat.zero_add]; rfl
  | m + 1, n, j, v => by
    rw [show m + 1 + n = (m + n) + 1 by omega]
    show sm g (m + n) (j + 1) (v + g j) = _
    rw [sm_a m n (j + 1) (v + g j), show j + 1 + m = j + (m + 1) by omega]
    rfl
theorem hsum10 {a : Mem} {t f z : Nat} {k : Int32 → Int32 → Int32 → Mem → Option (Int32 × Mem)} (ht : t < 8) (hf : f < 6) (hz : z ≤ 16) (ez : a 93 f = nI z) : ∀ (q i m : Nat) (v : Int32), i + q = z → q < m → F_H_sum_10 k m (nI (t + 1)) v (nI f) (nI i) a = k (nI (t + 1)) (sm (fun j => a 92 (96 + 96 * t + j)) q (16 * f + i) v) (nI (f + 1)) a := by
  have es : F_H_size 91 (nI f) a = some (nI z, a) := by
    rw [H_size (c := 93) rfl rfl rfl rfl hf, ez]
  intro q
  induction q with
  | zero =>
    intro i m v hi hm
    obtain ⟨m, rfl⟩ : ∃ k, m = k + 1 := ⟨m - 1, by omega⟩
    simp only [F_H_sum_10, es, Option.bind_some, if_pos (nI_le (show z ≤ i by omega) (show i < 2 ^ 31 by omega)), nI_1]
    rfl
  | succ q ih =>
    intro i m v hi hm
    obtain ⟨m, rfl⟩ : ∃ k, m = k + 1 := ⟨m - 1, by omega⟩
    have eg : F_H_get 91 (nI (t + 1)) (nI f) (nI i) a = some (a 92 (96 + 96 * t + (16 * f + i)), a) := by
      rw [H_get (c := 92) rfl rfl rfl rfl (by omega) hf (by omega), show 96 * (t + 1) + 16 * f + i = 96 + 96 * t + (16 * f + i) by omega]
    simp only [F_H_sum_10, es, Option.bind_some, if_neg (show ¬ nI z ≤ nI i from nI_ge (by omega) (by omega)), eg, nI_1]
    rw [ih (i + 1) m _ (by omega) (by omega)]
    rfl
theorem hsum4 {a : Mem} {t n : Nat} {z : Nat → Nat} (ht : t < 8) (hn : n ≤ 6) (e2 : a 91 2 = nI n) (hz : ∀ f, f < n → z f ≤ 16 ∧ a 93 f = nI (z f)) (h0 : ∀ j, j < 96 → ¬ (j / 16 < n ∧ j % 16 < z (j / 16)) → a 92 (96 + 96 * t + j) = 0) : ∀ (q f m : Nat) (v : Int32), f + q = n → q < m → F_H_sum_4 m (nI (t + 1)) v (nI f) a = some (sm (fun j => a 92 (96 + 96 * t + j)) (16 * (6 - f)) (16 * f) v, a) := by
  intro q
  induction q with
  | zero =>
    intro f m v hf hm
    obtain ⟨m, rfl⟩ : ∃ k, m = k + 1 := ⟨m - 1, by omega⟩
    simp only [F_H_sum_4, e2, if_pos (nI_le (show n ≤ f by omega) (show f < 2 ^ 31 by omega))]
    rw [sm_z]
    intro k k1 k2
    exact h0 k (by omega) (fun q => by omega)
  | succ q ih =>
    intro f m v hf hm
    obtain ⟨m, rfl⟩ : ∃ k, m = k + 1 := ⟨m - 1, by omega⟩
    obtain ⟨z1, z2⟩ := hz f (by omega)
    have hin := hsum10 (k := F_H_sum_4 m) ht (show f < 6 by omega) z1 z2 (z f) 0 gF v (by omega) (by rw [gF_eq]; omega)
    have hin : F_H_sum_10 (F_H_sum_4 m) gF (nI (t + 1)) v (nI f) 0 a = F_H_sum_4 m (nI (t + 1)) (sm (fun j => a 92 (96 + 96 * t + j)) (z f) (16 * f) v) (nI (f + 1)) a := hin
    simp only [F_H_sum_4, e2, if_neg (show ¬ nI n ≤ nI f from nI_ge (by omega) (by omega)), hin, nI_1]
    rw [ih (f + 1) m _ (by omega) (by omega), show 16 * (6 - f) = z f + ((16 - z f) + 16 * (6 - (f + 1))) by omega, sm_a, sm_a (16 - z f), sm_z (16 - z f), show 16 * f + z f + (16 - z f) = 16 * (f + 1) by omega]
    intro k k1 k2
    refine h0 k (by omega) (fun q => ?_)
    rw [show k / 16 = f by omega] at q
    omega
theorem rsum4 {b : Mem} {t : Nat} (ht : t < 8) : ∀ (q j m : Nat) (v : Int32), j + q = 96 → q < m → F_R_sumOf_4 m (nI (5 + 96 * t)) v (nI j) b = some (sm (fun j => b 124 (5 + 96 * t + j)) q j v, b) := by
  intro q
  induction q with
  | zero =>
    intro j m v hj hm
    obtain ⟨m, rfl⟩ : ∃ k, m = k + 1 := ⟨m - 1, by omega⟩
    simp only [F_R_sumOf_4, if_pos (show (96 : Int32) ≤ nI j from nI_le (a := 96) (by omega) (by omega))]
    rfl
  | succ q ih =>
    intro j m v hj hm
    obtain ⟨m, rfl⟩ : ∃ k, m = k + 1 := ⟨m - 1, by omega⟩
    have l1 : ld b 124 (nI (5 + 96 * t + j)) = some (b 124 (5 + 96 * t + j)) := ld_in rfl (show 5 + 96 * t + j < 773 by omega) (by decide)
    simp only [F_R_sumOf_4, if_neg (show ¬ (96 : Int32) ≤ nI j from nI_ge (b := 96) (by omega) (by omega)), nI_add, l1, Option.bind_some, nI_1]
    rw [ih (j + 1) m _ (by omega) (by omega)]
    rfl
theorem hmis10 {a : Mem} {f z : Nat} {k : Int32 → Int32 → Mem → Option (Int32 × Mem)} (hf : f < 6) (hz : z ≤ 16) (ez : a 93 f = nI z) : ∀ (q i m : Nat) (v : Int32), i + q = z → q < m → F_H_countMissing_10 k m v (nI f) (nI i) a = k (sm (fun j => if a 92 (96 + 96 * 3 + j) = 2 then 1 else 0) q (16 * f + i) v) (nI (f + 1)) a := by
  have es : F_H_size 91 (nI f) a = some (nI z, a) := by
    rw [H_size (c := 93) rfl rfl rfl rfl hf, ez]
  intro q
  induction q with
  | zero =>
    intro i m v hi hm
    obtain ⟨m, rfl⟩ : ∃ k, m = k + 1 := ⟨m - 1, by omega⟩
    simp only [F_H_countMissing_10, es, Option.bind_some, if_pos (nI_le (show z ≤ i by omega) (show i < 2 ^ 31 by omega)), nI_1]
    rfl
  | succ q ih =>
    intro i m v hi hm
    obtain ⟨m, rfl⟩ : ∃ k, m = k + 1 := ⟨m - 1, by omega⟩
    have eg : F_H_get 91 4 (nI f) (nI i) a = some (a 92 (96 + 96 * 3 + (16 * f + i)), a) := by
      rw [show F_H_get 91 4 (nI f) (nI i) a = _ from H_get (t := 4) (c := 92) rfl rfl rfl rfl (by omega) hf (by omega), show 96 * 4 + 16 * f + i = 96 + 96 * 3 + (16 * f + i) by omega]
    have c : ¬ nI z ≤ nI i := nI_ge (by omega) (by omega)
    have step : sm (fun j => if a 92 (96 + 96 * 3 + j) = 2 then (1 : Int32) else 0) (q + 1) (16 * f + i) v = sm (fun j => if a 92 (96 + 96 * 3 + j) = 2 then 1 else 0) q (16 * f + (i + 1)) (v + if a 92 (96 + 96 * 3 + (16 * f + i)) = 2 then 1 else 0) := rfl
    rw [step]
    by_cases h2 : a 92 (96 + 96 * 3 + (16 * f + i)) = 2
    · simp only [F_H_countMissing_10, es, Option.bind_some, if_neg c, F_H_isMissing, show Nat.beq (kd 91) 4 = true from rfl, cond_true, eg, if_pos h2, one0, if_false, nI_1]
      exact ih (i + 1) m _ (by omega) (by omega)
    · simp only [F_H_countMissing_10, es, Option.bind_some, if_neg c, F_H_isMissing, show Nat.beq (kd 91) 4 = true from rfl, cond_true, eg, if_neg h2, if_true, nI_1]
      exact ih (i + 1) m _ (by omega) (by omega)
theorem hmis4 {a : Mem} {n : Nat} {z : Nat → Nat} (hn : n ≤ 6) (e2 : a 91 2 = nI n) (hz : ∀ f, f < n → z f ≤ 16 ∧ a 93 f = nI (z f)) (h0 : ∀ j, j < 96 → ¬ (j / 16 < n ∧ j % 16 < z (j / 16)) → a 92 (96 + 96 * 3 + j) = 0) : ∀ (q f m : Nat) (v : Int32), f + q = n → q < m → F_H_countMissing_4 m v (nI f) a = some (sm (fun j => if a 92 (96 + 96 * 3 + j) = 2 then 1 else 0) (16 * (6 - f)) (16 * f) v, a) := by
  have h0' : ∀ j, j < 96 → ¬ (j / 16 < n ∧ j % 16 < z (j / 16)) → (if a 92 (96 + 96 * 3 + j) = 2 then (1 : Int32) else 0) = 0 := fun j hj hn => by
    rw [h0 j hj hn]
    rfl
  intro q
  induction q with
  | zero =>
    intro f m v hf hm
    obtain ⟨m, rfl⟩ : ∃ k, m = k + 1 := ⟨m - 1, by omega⟩
    simp only [F_H_countMissing_4, e2, if_pos (nI_le (show n ≤ f by omega) (show f < 2 ^ 31 by omega))]
    rw [sm_z]
    intro k k1 k2
    exact h0' k (by omega) (fun q => by omega)
  | succ q ih =>
    intro f m v hf hm
    obtain ⟨m, rfl⟩ : ∃ k, m = k + 1 := ⟨m - 1, by omega⟩
    obtain ⟨z1, z2⟩ := hz f (by omega)
    have hin := hmis10 (k := F_H_countMissing_4 m) (show f < 6 by omega) z1 z2 (z f) 0 gF v (by omega) (by rw [gF_eq]; omega)
    have hin : F_H_countMissing_10 (F_H_countMissing_4 m) gF v (nI f) 0 a = F_H_countMissing_4 m (sm (fun j => if a 92 (96 + 96 * 3 + j) = 2 then 1 else 0) (z f) (16 * f) v) (nI (f + 1)) a := hin
    simp only [F_H_countMissing_4, e2, if_neg (show ¬ nI n ≤ nI f from nI_ge (by omega) (by omega)), hin, nI_1]
    rw [ih (f + 1) m _ (by omega) (by omega), show 16 * (6 - f) = z f + ((16 - z f) + 16 * (6 - (f + 1))) by omega, sm_a, sm_a (16 - z f), sm_z (16 - z f), show 16 * f + z f + (16 - z f) = 16 * (f + 1) by omega]
    intro k k1 k2
    refine h0' k (by omega) (fun q => ?_)
    rw [show k / 16 = f by omega] at q
    omega
theorem rmis4 {b : Mem} : ∀ (q j m : Nat) (v : Int32), j + q = 96 → q < m → F_R_goneMany_4 m v (nI j) b = some (sm (fun j => if b 124 (5 + 96 * 3 + j) = 2 then 1 else 0) q j v, b) := by
  intro q
  induction q with
  | zero =>
    intro j m v hj hm
    obtain ⟨m, rfl⟩ : ∃ k, m = k + 1 := ⟨m - 1, by omega⟩
    simp only [F_R_goneMany_4, if_pos (show (96 : Int32) ≤ nI j from nI_le (a := 96) (by omega) (by omega))]
    rfl
  | succ q ih =>
    intro j m v hj hm
    obtain ⟨m, rfl⟩ : ∃ k, m = k + 1 := ⟨m - 1, by omega⟩
    have l1 : ld b 124 (293 + nI j) = some (b 124 (5 + 96 * 3 + j)) := by
      rw [show (293 : Int32) + nI j = nI (5 + 96 * 3 + j) from nI_add 293 _]
      exact ld_in rfl (show 5 + 96 * 3 + j < 773 by omega) (by decide)
    have c : ¬ (96 : Int32) ≤ nI j := nI_ge (b := 96) (by omega) (by omega)
    have step : sm (fun j => if b 124 (5 + 96 * 3 + j) = 2 then (1 : Int32) else 0) (q + 1) j v = sm (fun j => if b 124 (5 + 96 * 3 + j) = 2 then 1 else 0) q (j + 1) (v + if b 124 (5 + 96 * 3 + j) = 2 then 1 else 0) := rfl
    rw [step]
    by_cases h2 : b 124 (5 + 96 * 3 + j) = 2
    · simp only [F_R_goneMany_4, if_neg c, F_R_isGone, l1, Option.bind_some, if_pos h2, one0, if_false, nI_1]
      exact ih (j + 1) m _ (by omega) (by omega)
    · simp only [F_R_goneMany_4, if_neg c, F_R_isGone, l1, Option.bind_some, if_neg h2, if_true, nI_1, Int32.add_zero]
      exact ih (j + 1) m _ (by omega) (by omega)
theorem think2 : ∀ (q k m : Nat) (b : Mem), k + q = 773 → q < m → F_R_thinks_2 m (nI k) b = some (0, mw (rp b 126 (fun i => if k ≤ i ∧ i < 773 then b 124 i else b 126 i)) 123 5 1) := by
  intro q
  induction q with
  | zero =>
    intro k m b hk hm
    obtain ⟨m, rfl⟩ : ∃ m', m = m' + 1 := ⟨m - 1, by omega⟩
    have : k = 773 := by omega
    subst this
    have e2 : (fun i => if 773 ≤ i ∧ i < 773 then b 124 i else b 126 i) = b 126 := by
      funext i
      exact if_neg (by omega)
    simp only [F_R_thinks_2, if_pos (show (773 : Int32) ≤ nI 773 from by decide), e2, rp_id]
  | succ q ih =>
    intro k m b hk hm
    obtain ⟨m, rfl⟩ : ∃ m', m = m' + 1 := ⟨m - 1, by omega⟩
    have l1 : ld b 124 (nI k) = some (b 124 k) := ld_in rfl (show k < 773 by omega) (by decide)
    simp only [F_R_thinks_2, if_neg (show ¬ (773 : Int32) ≤ nI k from nI_ge (b := 773) (by omega) (by decide)), l1, Option.bind_some, nI_1]
    rw [sd_in (c := 126) rfl (show k < 773 by omega) (by decide)]
    simp only [Option.bind_some]
    rw [ih (k + 1) m (mw b 126 k (b 124 k)) (by omega) (by omega), mw_rp b, rp_rp]
    congr 4
    funext i
    show (if k + 1 ≤ i ∧ i < 773 then b 124 i else up (b 126) k (b 124 k) i) = _
    unfold up
    by_cases c1 : k + 1 ≤ i ∧ i < 773
    · rw [if_pos c1, if_pos (by omega)]
    · rw [if_neg c1]
      by_cases c2 : i = k
      · rw [if_pos c2, if_pos (by omega), c2]
      · rw [if_neg c2, if_neg (by omega)]
theorem ends2 : ∀ (q k m : Nat) (b : Mem), k + q = 773 → q < m → F_R_endsThought_2 m (nI k) b = some (0, mw (rp b 124 (fun i => if k ≤ i ∧ i < 773 then b 126 i else b 124 i)) 123 5 0) := by
  intro q
  induction q with
  | zero =>
    intro k m b hk hm
    obtain ⟨m, rfl⟩ : ∃ m', m = m' + 1 := ⟨m - 1, by omega⟩
    have : k = 773 := by omega
    subst this
    have e2 : (fun i => if 773 ≤ i ∧ i < 773 then b 126 i else b 124 i) = b 124 := by
      funext i
      exact if_neg (by omega)
    simp only [F_R_endsThought_2, if_pos (show (773 : Int32) ≤ nI 773 from by decide), e2, rp_id]
  | succ q ih =>
    intro k m b hk hm
    obtain ⟨m, rfl⟩ : ∃ m', m = m' + 1 := ⟨m - 1, by omega⟩
    have l1 : ld b 126 (nI k) = some (b 126 k) := ld_in rfl (show k < 773 by omega) (by decide)
    simp only [F_R_endsThought_2, if_neg (show ¬ (773 : Int32) ≤ nI k from nI_ge (b := 773) (by omega) (by decide)), l1, Option.bind_some, nI_1]
    rw [sd_in (c := 124) rfl (show k < 773 by omega) (by decide)]
    simp only [Option.bind_some]
    rw [ih (k + 1) m (mw b 124 k (b 126 k)) (by omega) (by omega), mw_rp b, rp_rp]
    congr 4
    funext i
    show (if k + 1 ≤ i ∧ i < 773 then b 126 i else up (b 124) k (b 126 k) i) = _
    unfold up
    by_cases c1 : k + 1 ≤ i ∧ i < 773
    · rw [if_pos c1, if_pos (by omega)]
    · rw [if_neg c1]
      by_cases c2 : i = k
      · rw [if_pos c2, if_pos (by omega), c2]
      · rw [if_neg c2, if_neg (by omega)]
