/-! ===== the house ===== -/
theorem rngF {n : Nat} (hn : n < 2 ^ 30) {x : Int32} : (0 ≤ x ∧ x ≤ nI n - 1) ↔ ∃ f, f < n ∧ x = nI f := by
  have z3 : (nI n - 1).toInt = n - 1 := by
    rw [i_sub (by rw [nI_toInt (by omega)]; show _ ≤ (n : Int) - 1; omega) (by rw [nI_toInt (by omega)]; show (n : Int) - 1 < _; omega), nI_toInt (by omega)]
    rfl
  constructor
  · rintro ⟨h1, h2⟩
    have z1 : 0 ≤ x.toInt := (fa_le _ _).mp h1
    have z2 := (fa_le _ _).mp h2
    rw [z3] at z2
    exact ⟨x.toInt.toNat, by omega, n_of z1⟩
  · rintro ⟨f, hf, rfl⟩
    refine ⟨nI_pos' (by omega), ?_⟩
    rw [fa_le, z3, nI_toInt (by omega)]
    omega
/-- flights, n of them, of z steps -/
def szOK (n : Nat) (z : Nat → Nat) : Prop := n ≤ 6 ∧ ∀ f, f < n → 1 ≤ z f ∧ z f ≤ 16
def cSz (s : Mem) (n : Nat) (z : Nat → Nat) : Prop := s 2 2 = nI n ∧ ∀ f, f < n → s 4 f = nI (z f)
def mSz (s : Mem) (n : Nat) (z : Nat → Nat) : Prop := s 123 6 = nI n ∧ ∀ f, f < n → s 127 f = nI (z f)
theorem HS_c {a b : Mem} (h : HS a b) : szOK (nF a) (sz a) ∧ cSz a (nF a) (sz a) ∧ mSz b (nF a) (sz a) := ⟨⟨h.1, fun f hf => ⟨(h.2.2.2.1 f hf).1, (h.2.2.2.1 f hf).2.1⟩⟩, ⟨h.2.1, fun f hf => (h.2.2.2.1 f hf).2.2.1⟩, ⟨h.2.2.1, fun f hf => (h.2.2.2.1 f hf).2.2.2⟩⟩
theorem C_has1 {s : Mem} {n : Nat} {z : Nat → Nat} (hz : szOK n z) (hc : cSz s n z) (x : Int32) : (∃ f, f < n ∧ x = nI f ∧ F_H_has1 x s = some (1, s)) ∨ ((∀ f, f < n → x ≠ nI f) ∧ F_H_has1 x s = some (0, s)) := by
  have hn := hz.1
  have e := rngF (n := n) (by omega) (x := x)
  have hF : F_H_has1 x s = some (if 0 ≤ x ∧ x ≤ nI n - 1 then 1 else 0, s) := by
    simp only [F_H_has1, hc.1, C_within, Option.bind_some]
    by_cases c : 0 ≤ x ∧ x ≤ nI n - 1
    · simp only [if_pos c]
      rfl
    · simp only [if_neg c]
      rfl
  by_cases c : 0 ≤ x ∧ x ≤ nI n - 1
  · obtain ⟨f, h1, h2⟩ := e.mp c
    rw [if_pos c] at hF
    exact Or.inl ⟨f, h1, h2, hF⟩
  · rw [if_neg c] at hF
    exact Or.inr ⟨fun f hf q => c (e.mpr ⟨f, hf, q⟩), hF⟩
theorem H_size {s : Mem} {h0 c f : Nat} (h1 : kd h0 = 4) (h2 : rf h0 1 = c) (h3 : kd c = 1) (h4 : ln c = 6) (hf : f < 6) : F_H_size h0 (nI f) s = some (s c f, s) := by
  have e2 : 0 ≤ nI f ∧ nI f ≤ nI 6 - 1 := (rngF (n := 6) (by decide)).mpr ⟨f, hf, rfl⟩
  simp only [F_H_size, h1, h2, h3, h4, show Nat.beq 4 4 = true from rfl, show Nat.beq 1 1 = true from rfl, Bool.true_or, cond_true, C_within, Option.bind_some, b01, e2, and_self, not_true_eq_false, if_false, one0]
  rw [ld_in h3 (by rw [h4]; exact hf) (by rw [h4]; decide)]
  rfl
theorem C_has2 {s : Mem} {n : Nat} {z : Nat → Nat} (hz : szOK n z) (hc : cSz s n z) (x y : Int32) : (∃ f i, f < n ∧ i < z f ∧ x = nI f ∧ y = nI i ∧ F_H_has2 x y s = some (1, s)) ∨ ((∀ f i, f < n → i < z f → ¬ (x = nI f ∧ y = nI i)) ∧ F_H_has2 x y s = some (0, s)) := by
  rcases C_has1 hz hc x with ⟨f, h1, rfl, h3⟩ | ⟨h1, h2⟩
  · have hf := hz.2 f h1
    have e := rngF (n := z f) (by omega) (x := y)
    have hs := H_size (s := s) (h0 := 2) (c := 4) rfl rfl rfl rfl (show f < 6 by have := hz.1; omega)
    rw [hc.2 f h1] at hs
    have hF : F_H_has2 (nI f) y s = some (if 0 ≤ y ∧ y ≤ nI (z f) - 1 then 1 else 0, s) := by
      simp only [F_H_has2, h3, Option.bind_some, one0, if_false, hs, C_within]
      by_cases c : 0 ≤ y ∧ y ≤ nI (z f) - 1
      · simp only [if_pos c]
        rfl
      · simp only [if_neg c]
        rfl
    by_cases c : 0 ≤ y ∧ y ≤ nI (z f) - 1
    · obtain ⟨i, i1, i2⟩ := e.mp c
      rw [if_pos c] at hF
      exact Or.inl ⟨f, i, h1, i1, rfl, i2, hF⟩
    · rw [if_neg c] at hF
      refine Or.inr ⟨fun f' i hf' hi q => ?_, hF⟩
      have : f = f' := (nI_eq (by have := hz.1; omega) (by have := hz.1; omega)).mp q.1
      subst this
      exact c (e.mpr ⟨i, hi, q.2⟩)
  · refine Or.inr ⟨fun f i hf _ q => h1 f hf q.1, ?_⟩
    simp only [F_H_has2, h2, Option.bind_some, if_true]
theorem R_isF {s : Mem} {n : Nat} {z : Nat → Nat} (hz : szOK n z) (hc : mSz s n z) (x : Int32) : (∃ f, f < n ∧ x = nI f ∧ F_R_isFlight x s = some (1, s)) ∨ ((∀ f, f < n → x ≠ nI f) ∧ F_R_isFlight x s = some (0, s)) := by
  have hn := hz.1
  unfold F_R_isFlight
  rw [hc.1]
  by_cases c1 : x < 0
  · rw [if_pos c1]
    exact Or.inr ⟨fun f hf q => by rw [q] at c1; exact nI_pos (by omega) c1, rfl⟩
  · rw [if_neg c1]
    obtain ⟨j, hj, rfl⟩ := nI_of c1
    by_cases c2 : nI n ≤ nI j
    · rw [if_pos c2]
      rw [nI_leI (by omega) hj] at c2
      exact Or.inr ⟨fun f hf q => by have := (nI_eq hj (by omega)).mp q; omega, rfl⟩
    · rw [if_neg c2]
      rw [nI_leI (by omega) hj] at c2
      exact Or.inl ⟨j, by omega, rfl, rfl⟩
theorem R_isS {s : Mem} {n : Nat} {z : Nat → Nat} (hz : szOK n z) (hc : mSz s n z) (x y : Int32) : (∃ f i, f < n ∧ i < z f ∧ x = nI f ∧ y = nI i ∧ F_R_isStep x y s = some (1, s)) ∨ ((∀ f i, f < n → i < z f → ¬ (x = nI f ∧ y = nI i)) ∧ F_R_isStep x y s = some (0, s)) := by
  rcases R_isF hz hc x with ⟨f, h1, rfl, h3⟩ | ⟨h1, h2⟩
  · have hf := hz.2 f h1
    have e := rngF (n := z f) (by omega) (x := y)
    have hs : ld s 127 (nI f) = some (nI (z f)) := (ld_in rfl (show f < 6 by have := hz.1; omega) (by decide)).trans (congrArg some (hc.2 f h1))
    have hF : F_R_isStep (nI f) y s = some (if 0 ≤ y ∧ y ≤ nI (z f) - 1 then 1 else 0, s) := by
      simp only [F_R_isStep, h3, Option.bind_some, one0, if_false, hs, R_isIn]
      by_cases c : 0 ≤ y ∧ y ≤ nI (z f) - 1
      · simp only [if_pos c]
        rfl
      · simp only [if_neg c]
        rfl
    by_cases c : 0 ≤ y ∧ y ≤ nI (z f) - 1
    · obtain ⟨i, i1, i2⟩ := e.mp c
      rw [if_pos c] at hF
      exact Or.inl ⟨f, i, h1, i1, rfl, i2, hF⟩
    · rw [if_neg c] at hF
      refine Or.inr ⟨fun f' i hf' hi q => ?_, hF⟩
      have : f = f' := (nI_eq (by have := hz.1; omega) (by have := hz.1; omega)).mp q.1
      subst this
      exact c (e.mpr ⟨i, hi, q.2⟩)
  · refine Or.inr ⟨fun f i hf _ q => h1 f hf q.1, ?_⟩
    simp only [F_R_isStep, h2, Option.bind_some, if_true]
theorem nI3 (t f i : Nat) : nI t * 96 + nI f * 16 + nI i = nI (96 * t + 16 * f + i) := by
  rw [show (96 : Int32) = nI 96 from rfl, show (16 : Int32) = nI 16 from rfl, n_mul, n_mul, nI_add, nI_add, Nat.mul_comm t, Nat.mul_comm f]
theorem H_get {s : Mem} {h0 c t f i : Nat} (h1 : kd h0 = 4) (h2 : rf h0 0 = c) (h3 : kd c = 1) (h4 : ln c = 864) (ht : t < 9) (hf : f < 6) (hi : i < 16) : F_H_get h0 (nI t) (nI f) (nI i) s = some (s c (96 * t + 16 * f + i), s) := by
  simp only [F_H_get, nI3, if_neg (nI_pos (show 96 * t + 16 * f + i < 2 ^ 31 by omega)), h1, h2, h3, h4, show Nat.beq 4 4 = true from rfl, show Nat.beq 1 1 = true from rfl, Bool.true_or, cond_true, if_neg (nI_ge (show 96 * t + 16 * f + i < 864 by omega) (by decide))]
  rw [ld_in h3 (by rw [h4]; omega) (by rw [h4]; decide)]
  rfl
theorem H_put {s : Mem} {h0 c t f i : Nat} {v : Int32} (h1 : kd h0 = 4) (h2 : rf h0 0 = c) (h3 : kd c = 1) (h4 : ln c = 864) (ht : t < 9) (hf : f < 6) (hi : i < 16) : F_H_put h0 (nI t) (nI f) (nI i) v s = some (0, mw s c (96 * t + 16 * f + i) v) := by
  simp only [F_H_put, nI3, if_neg (nI_pos (show 96 * t + 16 * f + i < 2 ^ 31 by omega)), h1, h2, h3, h4, show Nat.beq 4 4 = true from rfl, show Nat.beq 1 1 = true from rfl, Bool.true_or, cond_true, if_neg (nI_ge (show 96 * t + 16 * f + i < 864 by omega) (by decide))]
  rw [sd_in h3 (by rw [h4]; omega) (by rw [h4]; decide)]
  rfl
theorem n16 (f i : Nat) : (16 : Int32) * nI f + nI i = nI (16 * f + i) := by
  rw [show (16 : Int32) = nI 16 from rfl, n_mul, nI_add]
theorem b01a {p : Prop} {d : Decidable p} : (((if p then (1 : Int32) else 0) &&& 1) = (if p then (1 : Int32) else 0)) = True := by
  by_cases h : p
  · simp only [if_pos h]; decide
  · simp only [if_neg h]; decide
theorem b1a : (((1 : Int32) &&& 1) = 1) = True := by decide
theorem b0a : (((0 : Int32) &&& 1) = 0) = True := by decide
