/-! ===== rows of digits: drill, signer ===== -/
def dgS (r : Nat) : Nat → Nat
  | 0 => 0
  | k + 1 => dgS r k ||| 2 ^ (r / 10 ^ k % 10)
theorem dgS_lt (r : Nat) : ∀ k, dgS r k < 1024
  | 0 => (by decide : 0 < 1024)
  | k + 1 => by
    have h1 : r / 10 ^ k % 10 < 10 := Nat.mod_lt _ (by decide)
    exact Nat.or_lt_two_pow (n := 10) (dgS_lt r k) (Nat.pow_lt_pow_right (by decide) h1)
theorem dgS_bit (r v : Nat) : ∀ k, (dgS r k).testBit v = true ↔ ∃ i, i < k ∧ r / 10 ^ i % 10 = v
  | 0 => by
    simp only [dgS, Nat.zero_testBit, Bool.false_eq_true, false_iff]
    rintro ⟨i, h, -⟩
    omega
  | k + 1 => by
    rw [dgS, Nat.testBit_or, Bool.or_eq_true, dgS_bit r v k, Nat.testBit_two_pow]
    simp only [decide_eq_true_eq]
    constructor
    · rintro (⟨i, h1, h2⟩ | h)
      · exact ⟨i, by omega, h2⟩
      · exact ⟨k, by omega, h⟩
    · rintro ⟨i, h1, h2⟩
      by_cases h3 : i = k
      · subst h3; exact Or.inr h2
      · exact Or.inl ⟨i, by omega, h2⟩
theorem pm_inj {d : Nat} {D : Nat → Nat} (h : ∀ v, v < d → ∃ i, i < d ∧ D i = v) : (∀ i, i < d → D i < d) ∧ ∀ i j, i < d → j < d → D i = D j → i = j := by
  have hc : ∀ v : Nat, ∃ i : Nat, v < d → i < d ∧ D i = v := by
    intro v
    by_cases hv : v < d
    · obtain ⟨i, hi⟩ := h v hv
      exact ⟨i, fun _ => hi⟩
    · exact ⟨0, fun q => absurd q hv⟩
  obtain ⟨f, hf⟩ := Classical.axiomOfChoice hc
  have onto : ∀ y, y < d → ∃ v, v < d ∧ f v = y := fun y hy => fb_onto (fun v hv => (hf v hv).1) (fun i j hij hj e => by
    have h1 := (hf i (by omega)).2
    have h2 := (hf j hj).2
    rw [e] at h1
    omega) hy
  refine ⟨fun i hi => ?_, fun i j hi hj e => ?_⟩
  · obtain ⟨v, hv, e⟩ := onto i hi
    rw [← e, (hf v hv).2]
    exact hv
  · obtain ⟨v, hv, e1⟩ := onto i hi
    obtain ⟨w, hw, e2⟩ := onto j hj
    rw [← e1, ← e2, (hf v hv).2, (hf w hw).2] at e
    rw [← e1, ← e2, e]
theorem dgS_all {r d : Nat} : dgS r d = 2 ^ d - 1 ↔ ∀ v, v < d → ∃ i, i < d ∧ r / 10 ^ i % 10 = v := by
  constructor
  · intro h v hv
    rw [← dgS_bit, h, Nat.testBit_two_pow_sub_one]
    simp [hv]
  · intro h
    apply Nat.eq_of_testBit_eq
    intro v
    rw [Nat.testBit_two_pow_sub_one]
    by_cases hv : v < d
    · rw [(dgS_bit r v d).mpr (h v hv)]
      simp [hv]
    · have : ¬ (dgS r d).testBit v = true := by
        intro q
        obtain ⟨i, hi, e⟩ := (dgS_bit r v d).mp q
        have := (pm_inj h).1 i hi
        omega
      simp [hv, this]
theorem isPm_of {d r : Nat} (hr : r / 10 ^ d = 0) (h : dgS r d = 2 ^ d - 1) : isPm d (nI r) := ⟨r, by
  have := (Nat.div_eq_zero_iff).mp hr
  rcases this with h1 | h1
  · exact absurd h1 (Nat.ne_of_gt (Nat.pow_pos (by decide)))
  · exact h1, rfl, dgS_all.mp h⟩
theorem pm_max8 {r : Nat} (hr : r < 100000000) (h : dgS r 8 = 2 ^ 8 - 1) : r ≤ 76543210 := by
  obtain ⟨h1, h2⟩ := pm_inj (dgS_all.mp h)
  have n : ∀ i j, i < j → j < 8 → r / 10 ^ i % 10 ≠ r / 10 ^ j % 10 := fun i j hij hj e => by
    have := h2 i j (by omega) hj e
    omega
  have k7 := h1 7 (by decide)
  have k6 := h1 6 (by decide)
  have k5 := h1 5 (by decide)
  have k4 := h1 4 (by decide)
  have k3 := h1 3 (by decide)
  have k2 := h1 2 (by decide)
  have k1 := h1 1 (by decide)
  have k0 := h1 0 (by decide)
  have n67 := n 6 7 (by decide) (by decide)
  have n57 := n 5 7 (by decide) (by decide)
  have n47 := n 4 7 (by decide) (by decide)
  have n37 := n 3 7 (by decide) (by decide)
  have n27 := n 2 7 (by decide) (by decide)
  have n17 := n 1 7 (by decide) (by decide)
  have n07 := n 0 7 (by decide) (by decide)
  have n56 := n 5 6 (by decide) (by decide)
  have n46 := n 4 6 (by decide) (by decide)
  have n36 := n 3 6 (by decide) (by decide)
  have n26 := n 2 6 (by decide) (by decide)
  have n16 := n 1 6 (by decide) (by decide)
  have n06 := n 0 6 (by decide) (by decide)
  have n45 := n 4 5 (by decide) (by decide)
  have n35 := n 3 5 (by decide) (by decide)
  have n25 := n 2 5 (by decide) (by decide)
  have n15 := n 1 5 (by decide) (by decide)
  have n05 := n 0 5 (by decide) (by decide)
  have n34 := n 3 4 (by decide) (by decide)
  have n24 := n 2 4 (by decide) (by decide)
  have n14 := n 1 4 (by decide) (by decide)
  have n04 := n 0 4 (by decide) (by decide)
  have n23 := n 2 3 (by decide) (by decide)
  have n13 := n 1 3 (by decide) (by decide)
  have n03 := n 0 3 (by decide) (by decide)
  have n12 := n 1 2 (by decide) (by decide)
  have n02 := n 0 2 (by decide) (by decide)
  have n01 := n 0 1 (by decide) (by decide)
  simp only [Nat.reducePow, Nat.pow_zero, Nat.div_one] at *
  have hs : r = r % 10 + 10 * (r / 10 % 10) + 100 * (r / 100 % 10) + 1000 * (r / 1000 % 10) + 10000 * (r / 10000 % 10) + 100000 * (r / 100000 % 10) + 1000000 * (r / 1000000 % 10) + 10000000 * (r / 10000000 % 10) := by omega
  generalize r / 10000000 % 10 = e7 at *
  generalize r / 1000000 % 10 = e6 at *
  generalize r / 100000 % 10 = e5 at *
  generalize r / 10000 % 10 = e4 at *
  generalize r / 1000 % 10 = e3 at *
  generalize r / 100 % 10 = e2 at *
  generalize r / 10 % 10 = e1 at *
  generalize r % 10 = e0 at *
  clear h h1 h2 n
  by_cases c7 : e7 ≤ 6
  · clear n67 n57 n47 n37 n27 n17 n07 n56 n46 n36 n26 n16 n06 n45 n35 n25 n15 n05 n34 n24 n14 n04 n23 n13 n03 n12 n02 n01
    omega
  · have c7 : e7 = 7 := by clear n67 n57 n47 n37 n27 n17 n07 n56 n46 n36 n26 n16 n06 n45 n35 n25 n15 n05 n34 n24 n14 n04 n23 n13 n03 n12 n02 n01; omega
    subst c7
    by_cases c6 : e6 ≤ 5
    · clear n67 n57 n47 n37 n27 n17 n07 n56 n46 n36 n26 n16 n06 n45 n35 n25 n15 n05 n34 n24 n14 n04 n23 n13 n03 n12 n02 n01
      omega
    · have c6 : e6 = 6 := by clear n57 n47 n37 n27 n17 n07 n56 n46 n36 n26 n16 n06 n45 n35 n25 n15 n05 n34 n24 n14 n04 n23 n13 n03 n12 n02 n01; omega
      subst c6
      by_cases c5 : e5 ≤ 4
      · clear n67 n57 n47 n37 n27 n17 n07 n56 n46 n36 n26 n16 n06 n45 n35 n25 n15 n05 n34 n24 n14 n04 n23 n13 n03 n12 n02 n01
        omega
      · have c5 : e5 = 5 := by clear n67 n47 n37 n27 n17 n07 n46 n36 n26 n16 n06 n45 n35 n25 n15 n05 n34 n24 n14 n04 n23 n13 n03 n12 n02 n01; omega
        subst c5
        by_cases c4 : e4 ≤ 3
        · clear n67 n57 n47 n37 n27 n17 n07 n56 n46 n36 n26 n16 n06 n45 n35 n25 n15 n05 n34 n24 n14 n04 n23 n13 n03 n12 n02 n01
          omega
        · have c4 : e4 = 4 := by clear n67 n57 n37 n27 n17 n07 n56 n36 n26 n16 n06 n35 n25 n15 n05 n34 n24 n14 n04 n23 n13 n03 n12 n02 n01; omega
          subst c4
          by_cases c3 : e3 ≤ 2
          · clear n67 n57 n47 n37 n27 n17 n07 n56 n46 n36 n26 n16 n06 n45 n35 n25 n15 n05 n34 n24 n14 n04 n23 n13 n03 n12 n02 n01
            omega
          · have c3 : e3 = 3 := by clear n67 n57 n47 n27 n17 n07 n56 n46 n26 n16 n06 n45 n25 n15 n05 n24 n14 n04 n23 n13 n03 n12 n02 n01; omega
            subst c3
            by_cases c2 : e2 ≤ 1
            · clear n67 n57 n47 n37 n27 n17 n07 n56 n46 n36 n26 n16 n06 n45 n35 n25 n15 n05 n34 n24 n14 n04 n23 n13 n03 n12 n02 n01
              omega
            · have c2 : e2 = 2 := by clear n67 n57 n47 n37 n17 n07 n56 n46 n36 n16 n06 n45 n35 n15 n05 n34 n14 n04 n13 n03 n12 n02 n01; omega
              subst c2
              by_cases c1 : e1 ≤ 0
              · clear n67 n57 n47 n37 n27 n17 n07 n56 n46 n36 n26 n16 n06 n45 n35 n25 n15 n05 n34 n24 n14 n04 n23 n13 n03 n12 n02 n01
                omega
              · have c1 : e1 = 1 := by clear n67 n57 n47 n37 n27 n07 n56 n46 n36 n26 n06 n45 n35 n25 n05 n34 n24 n04 n23 n03 n02 n01; omega
                subst c1
                clear n67 n57 n47 n37 n27 n17 n56 n46 n36 n26 n16 n45 n35 n25 n15 n34 n24 n14 n23 n13 n12
                omega
theorem pm_max4 {r : Nat} (hr : r < 10000) (h : dgS r 4 = 2 ^ 4 - 1) : r ≤ 3210 := by
  obtain ⟨h1, h2⟩ := pm_inj (dgS_all.mp h)
  have n : ∀ i j, i < j → j < 4 → r / 10 ^ i % 10 ≠ r / 10 ^ j % 10 := fun i j hij hj e => by
    have := h2 i j (by omega) hj e
    omega
  have k3 := h1 3 (by decide)
  have k2 := h1 2 (by decide)
  have k1 := h1 1 (by decide)
  have k0 := h1 0 (by decide)
  have n23 := n 2 3 (by decide) (by decide)
  have n13 := n 1 3 (by decide) (by decide)
  have n03 := n 0 3 (by decide) (by decide)
  have n12 := n 1 2 (by decide) (by decide)
  have n02 := n 0 2 (by decide) (by decide)
  have n01 := n 0 1 (by decide) (by decide)
  simp only [Nat.reducePow, Nat.pow_zero, Nat.div_one] at *
  have hs : r = r % 10 + 10 * (r / 10 % 10) + 100 * (r / 100 % 10) + 1000 * (r / 1000 % 10) := by omega
  generalize r / 1000 % 10 = e3 at *
  generalize r / 100 % 10 = e2 at *
  generalize r / 10 % 10 = e1 at *
  generalize r % 10 = e0 at *
  clear h h1 h2 n
  omega
