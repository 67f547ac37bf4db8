/-! ===== between ===== -/
def btV (a b c d : Nat) : Nat → Nat → Nat
  | 0, k => k
  | r + 1, k => if (a * k / b + 1) * d < c * k then k else btV a b c d r (k + 1)
theorem bt_med {a b c d : Nat} (hb : 0 < b) (hd : 0 < d) (h : a * d < c * b) : (a * (b + d) / b + 1) * d < c * (b + d) := by
  have h1 : a * (b + d) / b = a + a * d / b := by
    rw [Nat.mul_add, Nat.mul_comm a b, Nat.add_comm (b * a), Nat.add_mul_div_left _ _ hb, Nat.add_comm]
  have h2 : a * d / b < c := Nat.div_lt_of_lt_mul (by rw [Nat.mul_comm b c]; exact h)
  rw [h1]
  have h3 : (a + a * d / b + 1) * d ≤ (a + c) * d := Nat.mul_le_mul_right d (by omega)
  have h4 : (a + c) * d = a * d + c * d := Nat.add_mul a c d
  have h5 : c * (b + d) = c * b + c * d := Nat.mul_add c b d
  omega
theorem bt_num {a b d k : Nat} (ha : a < 100) (hb : 0 < b) (hk : k ≤ 198) : a * k / b + 1 ≤ 19603 := by
  have h1 : a * k ≤ 99 * 198 := Nat.mul_le_mul (by omega) hk
  have h2 : a * k / b ≤ a * k := Nat.div_le_self _ _
  omega
theorem btC {s : Mem} {lo hi a b c d : Nat} (hlo : lo < 10000) (hhi : hi < 10000) (ea : lo / 100 = a) (eb : lo % 100 = b) (ec : hi / 100 = c) (ed : hi % 100 = d) (hb : 0 < b) (hd : 0 < d) (h : a * d < c * b) : ∀ (r k m : Nat), 1 ≤ k → k + r = b + d → r < m → F_D_simplestBetween_40 m (nI lo) (nI hi) (nI b) (nI k) s = some (nI (1000 * (a * btV a b c d r k / b + 1) + btV a b c d r k), s) := by
  have d1 : nI lo / 100 = nI a := by rw [← ea]; exact n_divL (by omega) (by decide) (by decide) rfl
  have d2 : nI hi / 100 = nI c := by rw [← ec]; exact n_divL (by omega) (by decide) (by decide) rfl
  have d3 : irm (nI hi) 100 = nI d := by rw [← ed]; exact n_irmL (by omega) (by decide) (by decide) rfl
  have ba : a < 100 := by omega
  have bb : b < 100 := by omega
  have bc : c < 100 := by omega
  have bd : d < 100 := by omega
  have hb0 : ¬ nI b = 0 := nI_ne0 hb (by omega)
  intro r
  induction r with
  | zero =>
    intro k m h1 hk hm
    obtain ⟨m, rfl⟩ : ∃ m', m = m' + 1 := ⟨m - 1, by omega⟩
    have hn := bt_num (d := d) ba hb (show k ≤ 198 by omega)
    have hk2 : a * k ≤ 99 * 198 := Nat.mul_le_mul (by omega) (by omega)
    have hm1 : (a * k / b + 1) * d ≤ 19603 * 99 := Nat.mul_le_mul hn (by omega)
    have hm2 : c * k ≤ 99 * 198 := Nat.mul_le_mul (by omega) (by omega)
    have hmed := bt_med hb hd h
    rw [show b + d = k by omega] at hmed
    simp only [F_D_simplestBetween_40, btV, d1, d2, d3, if_neg hb0, n_mul]
    rw [if_neg (show ¬ (198 : Int32) < nI k from nI_nlt (a := 198) (by omega) (by decide)), n_div (by omega) hb (by omega), nI_1, n_mul, if_neg (nI_ge hmed (by omega)), show (1000 : Int32) = nI 1000 from rfl, n_mul, nI_add]
  | succ r ih =>
    intro k m h1 hk hm
    obtain ⟨m, rfl⟩ : ∃ m', m = m' + 1 := ⟨m - 1, by omega⟩
    have hn := bt_num (d := d) ba hb (show k ≤ 198 by omega)
    have hk2 : a * k ≤ 99 * 198 := Nat.mul_le_mul (by omega) (by omega)
    have hm1 : (a * k / b + 1) * d ≤ 19603 * 99 := Nat.mul_le_mul hn (by omega)
    have hm2 : c * k ≤ 99 * 198 := Nat.mul_le_mul (by omega) (by omega)
    simp only [F_D_simplestBetween_40, btV, d1, d2, d3, if_neg hb0, n_mul]
    rw [if_neg (show ¬ (198 : Int32) < nI k from nI_nlt (a := 198) (by omega) (by decide)), n_div (by omega) hb (by omega), nI_1, n_mul]
    by_cases hP : (a * k / b + 1) * d < c * k
    · rw [if_neg (nI_ge hP (by omega)), if_pos hP, show (1000 : Int32) = nI 1000 from rfl, n_mul, nI_add]
    · rw [if_pos (nI_le (by omega) (by omega)), if_neg hP, nI_1]
      exact ih (k + 1) m (by omega) (by omega) (by omega)
theorem btM {s : Mem} {a b c d : Nat} (ba : a < 100) (bb : b < 100) (bc : c < 100) (bd : d < 100) (hb : 0 < b) (hd : 0 < d) (h : a * d < c * b) : ∀ (r k m : Nat), 1 ≤ k → k + r = b + d → r < m → F_R_between_81 m (nI a) (nI b) (nI c) (nI d) (nI k) s = some (nI (1000 * (a * btV a b c d r k / b + 1) + btV a b c d r k), s) := by
  have hb0 : ¬ nI b = 0 := nI_ne0 hb (by omega)
  intro r
  induction r with
  | zero =>
    intro k m h1 hk hm
    obtain ⟨m, rfl⟩ : ∃ m', m = m' + 1 := ⟨m - 1, by omega⟩
    have hn := bt_num (d := d) ba hb (show k ≤ 198 by omega)
    have hk2 : a * k ≤ 99 * 198 := Nat.mul_le_mul (by omega) (by omega)
    have hm1 : (a * k / b + 1) * d ≤ 19603 * 99 := Nat.mul_le_mul hn (by omega)
    have hm2 : c * k ≤ 99 * 198 := Nat.mul_le_mul (by omega) (by omega)
    have hmed := bt_med hb hd h
    rw [show b + d = k by omega] at hmed
    simp only [F_R_between_81, btV, if_neg hb0, n_mul]
    rw [n_div (by omega) hb (by omega), nI_1, n_mul, if_pos (nI_lt hmed (by omega)), show (1000 : Int32) = nI 1000 from rfl, n_mul, nI_add]
  | succ r ih =>
    intro k m h1 hk hm
    obtain ⟨m, rfl⟩ : ∃ m', m = m' + 1 := ⟨m - 1, by omega⟩
    have hn := bt_num (d := d) ba hb (show k ≤ 198 by omega)
    have hk2 : a * k ≤ 99 * 198 := Nat.mul_le_mul (by omega) (by omega)
    have hm1 : (a * k / b + 1) * d ≤ 19603 * 99 := Nat.mul_le_mul hn (by omega)
    have hm2 : c * k ≤ 99 * 198 := Nat.mul_le_mul (by omega) (by omega)
    simp only [F_R_between_81, btV, if_neg hb0, n_mul]
    rw [n_div (by omega) hb (by omega), nI_1, n_mul]
    by_cases hP : (a * k / b + 1) * d < c * k
    · rw [if_pos (nI_lt hP (by omega)), if_pos hP, show (1000 : Int32) = nI 1000 from rfl, n_mul, nI_add]
    · rw [if_neg (nI_nlt (by omega) (by omega)), if_neg hP, nI_1]
      exact ih (k + 1) m (by omega) (by omega) (by omega)
theorem g_between (x y : Int32) : Good Inv (F_C_between x y) (F_R_between x y) := by
  intro s h
  by_cases h1 : 1 ≤ x ∧ x ≤ 9999
  · obtain ⟨A, a1, a2, rfl⟩ := inN_of (lo := 1) (hi := 9999) (by decide) (by decide) h1
    have dA : nI A / 100 = nI (A / 100) := n_divL (by omega) (by decide) (by decide) rfl
    have rA : irm (nI A) 100 = nI (A % 100) := n_irmL (by omega) (by decide) (by decide) rfl
    have zA : (nI (A % 100) = 0) ↔ A % 100 = 0 := nI_eq (b := 0) (by omega) (by decide)
    by_cases h2 : 1 ≤ y ∧ y ≤ 9999
    · obtain ⟨B, b1, b2, rfl⟩ := inN_of (lo := 1) (hi := 9999) (by decide) (by decide) h2
      have dB : nI B / 100 = nI (B / 100) := n_divL (by omega) (by decide) (by decide) rfl
      have rB : irm (nI B) 100 = nI (B % 100) := n_irmL (by omega) (by decide) (by decide) rfl
      have zB : (nI (B % 100) = 0) ↔ B % 100 = 0 := nI_eq (b := 0) (by omega) (by decide)
      by_cases h3 : A % 100 = 0
      · refine ⟨-1, s, mw s 123 0 0, ?_, ?_, Inv_t h⟩
        · simp only [F_C_between, F_D_isFraction, C_within, Option.bind_some, b01, h1, and_self, not_true_eq_false, if_false, rA, zA.mpr h3, eq_self, if_true, one0]
        · simp only [F_R_between, R_isIn, Option.bind_some, b01, h1, h2, and_self, not_true_eq_false, if_false, rA, zA.mpr h3, eq_self, if_true, one0]
      · by_cases h4 : B % 100 = 0
        · refine ⟨-1, s, mw s 123 0 0, ?_, ?_, Inv_t h⟩
          · simp only [F_C_between, F_D_isFraction, C_within, Option.bind_some, b01, h1, h2, and_self, not_true_eq_false, if_false, rA, zA, h3, rB, zB.mpr h4, eq_self, if_true, one0]
          · simp only [F_R_between, R_isIn, Option.bind_some, b01, h1, h2, and_self, not_true_eq_false, if_false, rA, zA, h3, rB, zB.mpr h4, eq_self, if_true, one0]
        · have p1 : A / 100 * (B % 100) ≤ 99 * 99 := Nat.mul_le_mul (by omega) (by omega)
          have p2 : B / 100 * (A % 100) ≤ 99 * 99 := Nat.mul_le_mul (by omega) (by omega)
          have cE : F_C_between (nI A) (nI B) s = (F_D_simplestBetween (nI A) (nI B) s).bind fun z => some (z.1, z.2) := by
            simp only [F_C_between, F_D_isFraction, C_within, Option.bind_some, b01, h1, h2, and_self, not_true_eq_false, if_false, rA, zA, h3, rB, zB, h4, if_true, one0]
          have mE : F_R_between (nI A) (nI B) s = if A / 100 * (B % 100) = B / 100 * (A % 100) then some (-1, mw s 123 0 0) else if B / 100 * (A % 100) ≤ A / 100 * (B % 100) then F_R_between_81 gF (nI (B / 100)) (nI (B % 100)) (nI (A / 100)) (nI (A % 100)) 1 (mw s 123 0 0) else F_R_between_81 gF (nI (A / 100)) (nI (A % 100)) (nI (B / 100)) (nI (B % 100)) 1 (mw s 123 0 0) := by
            simp only [F_R_between, R_isIn, Option.bind_some, b01, h1, h2, and_self, not_true_eq_false, if_false, rA, zA, h3, rB, zB, h4, if_true, one0, dA, dB, n_mul, nI_eq (show A / 100 * (B % 100) < 2 ^ 31 by omega) (show B / 100 * (A % 100) < 2 ^ 31 by omega), nI_leI (show B / 100 * (A % 100) < 2 ^ 31 by omega) (show A / 100 * (B % 100) < 2 ^ 31 by omega)]
          have sI : ∀ {z : Int}, (A / 100 * (B % 100) : Nat) - ((B / 100 * (A % 100) : Nat) : Int) = z → (nI (A / 100 * (B % 100)) - nI (B / 100 * (A % 100))).toInt = z := by
            intro z hz
            rw [i_sub (by rw [nI_toInt (by omega), nI_toInt (by omega)]; omega) (by rw [nI_toInt (by omega), nI_toInt (by omega)]; omega), nI_toInt (by omega), nI_toInt (by omega)]
            exact hz
          have s0 : (nI (A / 100 * (B % 100)) - nI (B / 100 * (A % 100)) = 0) ↔ A / 100 * (B % 100) = B / 100 * (A % 100) := by
            rw [fa_eq, sI rfl]
            show _ = (0 : Int) ↔ _
            omega
          have s1 : (0 ≤ nI (A / 100 * (B % 100)) - nI (B / 100 * (A % 100))) ↔ B / 100 * (A % 100) ≤ A / 100 * (B % 100) := by
            rw [fa_le, sI rfl]
            show (0 : Int) ≤ _ ↔ _
            omega
          have mxA : (if nI (A % 100) < 1 then (1 : Int32) else nI (A % 100)) = nI (A % 100) := if_neg (nI_nlt (b := 1) (by omega) (by omega))
          have mxB : (if nI (B % 100) < 1 then (1 : Int32) else nI (B % 100)) = nI (B % 100) := if_neg (nI_nlt (b := 1) (by omega) (by omega))
          by_cases h5 : A / 100 * (B % 100) = B / 100 * (A % 100)
          · refine ⟨-1, s, mw s 123 0 0, ?_, ?_, Inv_t h⟩
            · rw [cE]
              simp only [F_D_simplestBetween, dA, dB, rA, rB, n_mul, if_pos (s0.mpr h5), Option.bind_some]
            · rw [mE, if_pos h5]
          · by_cases h6 : B / 100 * (A % 100) ≤ A / 100 * (B % 100)
            · have hc := btC (s := s) (lo := B) (hi := A) (by omega) (by omega) rfl rfl rfl rfl (by omega) (by omega) (by omega) (B % 100 + A % 100 - 1) 1 gF (Nat.le_refl 1) (by omega) (by rw [gF_eq]; omega)
              have hm := btM (s := mw s 123 0 0) (a := B / 100) (b := B % 100) (c := A / 100) (d := A % 100) (by omega) (by omega) (by omega) (by omega) (by omega) (by omega) (by omega) (B % 100 + A % 100 - 1) 1 gF (Nat.le_refl 1) (by omega) (by rw [gF_eq]; omega)
              refine ⟨nI (1000 * (B / 100 * btV (B / 100) (B % 100) (A / 100) (A % 100) (B % 100 + A % 100 - 1) 1 / (B % 100) + 1) + btV (B / 100) (B % 100) (A / 100) (A % 100) (B % 100 + A % 100 - 1) 1), s, mw s 123 0 0, ?_, ?_, Inv_t h⟩
              · rw [cE]
                simp only [F_D_simplestBetween, dA, dB, rA, rB, n_mul, if_neg (fun q => h5 (s0.mp q)), if_pos (s1.mpr h6), C_max, mxB, Option.bind_some]
                rw [show (1 : Int32) = nI 1 from rfl, hc]
                rfl
              · rw [mE, if_neg h5, if_pos h6]
                exact hm
            · have hc := btC (s := s) (lo := A) (hi := B) (by omega) (by omega) rfl rfl rfl rfl (by omega) (by omega) (by omega) (A % 100 + B % 100 - 1) 1 gF (Nat.le_refl 1) (by omega) (by rw [gF_eq]; omega)
              have hm := btM (s := mw s 123 0 0) (a := A / 100) (b := A % 100) (c := B / 100) (d := B % 100) (by omega) (by omega) (by omega) (by omega) (by omega) (by omega) (by omega) (A % 100 + B % 100 - 1) 1 gF (Nat.le_refl 1) (by omega) (by rw [gF_eq]; omega)
              refine ⟨nI (1000 * (A / 100 * btV (A / 100) (A % 100) (B / 100) (B % 100) (A % 100 + B % 100 - 1) 1 / (A % 100) + 1) + btV (A / 100) (A % 100) (B / 100) (B % 100) (A % 100 + B % 100 - 1) 1), s, mw s 123 0 0, ?_, ?_, Inv_t h⟩
              · rw [cE]
                simp only [F_D_simplestBetween, dA, dB, rA, rB, n_mul, if_neg (fun q => h5 (s0.mp q)), if_neg (fun q => h6 (s1.mp q)), C_max, mxA, Option.bind_some]
                rw [show (1 : Int32) = nI 1 from rfl, hc]
                rfl
              · rw [mE, if_neg h5, if_neg h6]
                exact hm
    · refine ⟨-1, s, mw s 123 0 0, ?_, ?_, Inv_t h⟩
      · by_cases h3 : A % 100 = 0
        · simp only [F_C_between, F_D_isFraction, C_within, Option.bind_some, b01, h1, and_self, not_true_eq_false, if_false, rA, zA.mpr h3, eq_self, if_true, one0]
        · simp only [F_C_between, F_D_isFraction, C_within, Option.bind_some, b01, h1, h2, and_self, not_true_eq_false, not_false_eq_true, if_false, rA, zA, h3, if_true, one0]
      · simp only [F_R_between, R_isIn, Option.bind_some, b01, h1, h2, and_self, not_true_eq_false, not_false_eq_true, if_false, if_true, one0]
  · refine ⟨-1, s, mw s 123 0 0, ?_, ?_, Inv_t h⟩
    · simp only [F_C_between, F_D_isFraction, C_within, Option.bind_some, b01, h1, not_false_eq_true, if_true]
    · simp only [F_R_between, R_isIn, Option.bind_some, b01, h1, not_false_eq_true, if_true]
