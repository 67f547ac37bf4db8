/-! ===== bits of sets below 65536, byte by byte ===== -/
theorem cat_bit {h l : Nat} (hl : l < 256) (i : Nat) : (256 * h + l).testBit i = if i < 8 then l.testBit i else h.testBit (i - 8) := Nat.testBit_two_pow_mul_add (i := 8) h hl i
theorem cat_and {h l p q : Nat} (hl : l < 256) (hq : q < 256) : (256 * h + l) &&& (256 * p + q) = 256 * (h &&& p) + (l &&& q) := by
  have hlq : l &&& q < 256 := Nat.lt_of_le_of_lt Nat.and_le_left hl
  apply Nat.eq_of_testBit_eq
  intro i
  rw [Nat.testBit_and, cat_bit hl, cat_bit hq, cat_bit hlq]
  split
  · rw [Nat.testBit_and]
  · rw [Nat.testBit_and]
def bq1 (a : Nat) : Nat := a - (a / 2 &&& 1431655765)
def bq2 (y : Nat) : Nat := (y &&& 858993459) + (y / 4 &&& 858993459)
def bq3 (y : Nat) : Nat := (y + y / 16) &&& 252645135
def bq4 (y : Nat) : Nat := y + y / 256
def bq5 (y : Nat) : Nat := (y + y / 65536) &&& 63
def bcN (a : Nat) : Nat := bq5 (bq4 (bq3 (bq2 (bq1 a))))
def pc (n a : Nat) : Nat := fb_ct (fun i => a.testBit i) n
set_option maxRecDepth 100000 in
theorem by1 : ∀ l, l < 256 → ∀ c, c < 2 → (128 * c + l / 2) &&& 85 = (l / 2 &&& 1431655765) := by decide +kernel
set_option maxRecDepth 100000 in
theorem by1h : ∀ h, h < 256 → (h / 2 &&& 5592405) = (h / 2 &&& 1431655765) ∧ bq1 h < 256 ∧ bq2 (bq1 h) ≤ 68 ∧ bq2 (bq1 h) % 16 ≤ 4 ∧ bq3 (bq2 (bq1 h)) = pc 8 h ∧ pc 8 h ≤ 8 ∧ (h / 2 &&& 1431655765) ≤ h := by decide +kernel
set_option maxRecDepth 100000 in
theorem by2 : ∀ l, l < 256 → ((l &&& 51) = (l &&& 858993459) ∧ (l &&& 3355443) = (l &&& 858993459) ∧ (l / 4 &&& 3355443) = (l / 4 &&& 858993459)) ∧ ∀ c, c < 4 → (64 * c + l / 4) &&& 51 = (l / 4 &&& 858993459) := by decide +kernel
set_option maxRecDepth 100000 in
theorem by3 : ∀ v, v < 69 → ((v + v / 16) &&& 986895) = ((v + v / 16) &&& 252645135) ∧ ∀ c, c < 5 → (v + 16 * c + v / 16) &&& 15 = ((v + v / 16) &&& 252645135) := by decide +kernel
theorem bcN_cat {h l : Nat} (hh : h < 256) (hl : l < 256) : bcN (256 * h + l) = pc 8 h + pc 8 l := by
  obtain ⟨a1, a2, a3, a4, a5, a6, a7⟩ := by1h h hh
  obtain ⟨b1, b2, b3, b4, b5, b6, b7⟩ := by1h l hl
  have e1 : bq1 (256 * h + l) = 256 * bq1 h + bq1 l := by
    have c1 : (256 * h + l) / 2 = 256 * (h / 2) + (128 * (h % 2) + l / 2) := by omega
    unfold bq1
    rw [c1, show (1431655765 : Nat) = 256 * 5592405 + 85 from rfl, cat_and (by omega) (by decide), by1 l hl (h % 2) (by omega), a1, show (256 * 5592405 + 85 : Nat) = 1431655765 from rfl]
    omega
  generalize hu : bq1 h = u at *
  generalize hv : bq1 l = v at *
  have e2 : bq2 (256 * u + v) = 256 * bq2 u + bq2 v := by
    obtain ⟨⟨p1, p2, p3⟩, p4⟩ := by2 u a2
    obtain ⟨⟨q1, q2, q3⟩, q4⟩ := by2 v b2
    have c1 : (256 * u + v) / 4 = 256 * (u / 4) + (64 * (u % 4) + v / 4) := by omega
    unfold bq2
    rw [c1, show (858993459 : Nat) = 256 * 3355443 + 51 from rfl, cat_and b2 (by decide), cat_and (by omega) (by decide), q4 (u % 4) (by omega), p2, q1, p3, show (256 * 3355443 + 51 : Nat) = 858993459 from rfl]
    omega
  generalize hx : bq2 u = x at *
  generalize hy : bq2 v = y at *
  have e3 : bq3 (256 * x + y) = 256 * bq3 x + bq3 y := by
    obtain ⟨p1, p2⟩ := by3 x (by omega)
    obtain ⟨q1, q2⟩ := by3 y (by omega)
    have c1 : (256 * x + y) + (256 * x + y) / 16 = 256 * (x + x / 16) + (y + 16 * (x % 16) + y / 16) := by omega
    unfold bq3
    rw [c1, show (252645135 : Nat) = 256 * 986895 + 15 from rfl, cat_and (by omega) (by decide), q2 (x % 16) (by omega), p1, show (256 * 986895 + 15 : Nat) = 252645135 from rfl]
  unfold bcN
  rw [e1, e2, e3, a5, b5]
  generalize pc 8 h = m at *
  generalize pc 8 l = n at *
  unfold bq4 bq5
  have c2 : (256 * m + n + (256 * m + n) / 256) / 65536 = 0 := by omega
  rw [c2, Nat.add_zero]
  have c3 := Nat.and_two_pow_sub_one_eq_mod (256 * m + n + (256 * m + n) / 256) 6
  rw [show (2 : Nat) ^ 6 - 1 = 63 from rfl] at c3
  rw [c3]
  omega
theorem pc_cat {h l : Nat} (hl : l < 256) : pc 16 (256 * h + l) = pc 8 h + pc 8 l := by
  unfold pc
  rw [show (16 : Nat) = 8 + 8 from rfl, fb_ct_split, Nat.add_comm]
  congr 1
  · apply fb_ct_cong
    intro k hk
    rw [cat_bit hl, if_neg (by omega), show 8 + k - 8 = k by omega]
  · apply fb_ct_cong
    intro k hk
    rw [cat_bit hl, if_pos hk]
theorem bcN_ok {a : Nat} (ha : a < 65536) : bcN a = pc 16 a := by
  have e : 256 * (a / 256) + a % 256 = a := by omega
  rw [← e, bcN_cat (by omega) (by omega), pc_cat (by omega)]
theorem n_ush {a k : Nat} (ha : a < 2 ^ 31) (hk : k < 32) : ush (nI a) (nI k) = nI (a / 2 ^ k) := by
  apply b_ext
  intro i hi
  unfold ush
  rw [b_ushr k hk _ i, n_bt (Nat.lt_of_le_of_lt (Nat.div_le_self _ _) ha) i hi, ← Nat.shiftRight_eq_div_pow, Nat.testBit_shiftRight]
  by_cases h : k + i < 32
  · rw [n_bt ha _ h]
  · rw [b_big (by omega), Nat.testBit_lt_two_pow]
    exact Nat.lt_of_lt_of_le ha (Nat.pow_le_pow_right (by decide) (by omega))
theorem C_bitCount {a : Nat} (ha : a < 65536) (s : Mem) : F_JI_bitCount (nI a) s = some (nI (pc 16 a), s) := by
  rw [← bcN_ok ha]
  have l1 : a / 2 &&& 1431655765 ≤ a / 2 := Nat.and_le_left
  have l2 : bq1 a ≤ a := Nat.sub_le _ _
  have l3 : bq1 a &&& 858993459 ≤ bq1 a := Nat.and_le_left
  have l4 : bq1 a / 4 &&& 858993459 ≤ bq1 a / 4 := Nat.and_le_left
  have l5 : bq2 (bq1 a) ≤ 2 * a := by unfold bq2; omega
  have l6 : bq3 (bq2 (bq1 a)) ≤ bq2 (bq1 a) + bq2 (bq1 a) / 16 := Nat.and_le_left
  have l7 : bq4 (bq3 (bq2 (bq1 a))) ≤ 8 * a := by unfold bq4; omega
  have u1 : ush (nI a) 1 = nI (a / 2) := n_ush (k := 1) (by omega) (by decide)
  have u2 : ush (nI (bq1 a)) 2 = nI (bq1 a / 4) := n_ush (k := 2) (by omega) (by decide)
  have u3 : ush (nI (bq2 (bq1 a))) 4 = nI (bq2 (bq1 a) / 16) := n_ush (k := 4) (by omega) (by decide)
  have u4 : ush (nI (bq3 (bq2 (bq1 a)))) 8 = nI (bq3 (bq2 (bq1 a)) / 256) := n_ush (k := 8) (by omega) (by decide)
  have u5 : ush (nI (bq4 (bq3 (bq2 (bq1 a))))) 16 = nI (bq4 (bq3 (bq2 (bq1 a))) / 65536) := n_ush (k := 16) (by omega) (by decide)
  have s1 : nI a - (ush (nI a) 1 &&& 1431655765) = nI (bq1 a) := by
    rw [u1, show (1431655765 : Int32) = nI 1431655765 from rfl, fa_and, n_sub (by omega)]
    rfl
  have s2 : (nI (bq1 a) &&& 858993459) + (ush (nI (bq1 a)) 2 &&& 858993459) = nI (bq2 (bq1 a)) := by
    rw [u2, show (858993459 : Int32) = nI 858993459 from rfl, fa_and, fa_and, nI_add]
    rfl
  have s3 : ((nI (bq2 (bq1 a)) + ush (nI (bq2 (bq1 a))) 4) &&& 252645135) = nI (bq3 (bq2 (bq1 a))) := by
    rw [u3, show (252645135 : Int32) = nI 252645135 from rfl, nI_add, fa_and]
    rfl
  have s4 : nI (bq3 (bq2 (bq1 a))) + ush (nI (bq3 (bq2 (bq1 a)))) 8 = nI (bq4 (bq3 (bq2 (bq1 a)))) := by
    rw [u4, nI_add]
    rfl
  have s5 : (nI (bq4 (bq3 (bq2 (bq1 a)))) + ush (nI (bq4 (bq3 (bq2 (bq1 a))))) 16) &&& 63 = nI (bcN a) := by
    rw [u5, show (63 : Int32) = nI 63 from rfl, nI_add, fa_and]
    rfl
  simp only [F_JI_bitCount, s1, s2, s3, s4, s5]
/-! one bit less -/
set_option maxRecDepth 100000 in
theorem by4 : ∀ l, l < 256 → 0 < l → pc 8 (l &&& (l - 1)) + 1 = pc 8 l := by decide +kernel
theorem pc_less {a : Nat} (ha : a < 65536) (h0 : 0 < a) : pc 16 (a &&& (a - 1)) + 1 = pc 16 a ∧ a &&& (a - 1) < a := by
  refine ⟨?_, Nat.lt_of_le_of_lt Nat.and_le_right (by omega)⟩
  have e : a = 256 * (a / 256) + a % 256 := by omega
  by_cases hl : a % 256 = 0
  · have e1 : a - 1 = 256 * (a / 256 - 1) + 255 := by omega
    have h1 := by4 (a / 256) (by omega) (by omega)
    rw [e1]
    have e2 : a &&& (256 * (a / 256 - 1) + 255) = 256 * (a / 256 &&& (a / 256 - 1)) + (a % 256 &&& 255) := by
      rw [← cat_and (by omega) (by decide), ← e]
    rw [e2, hl, Nat.zero_and, pc_cat (by decide)]
    have e3 : pc 16 a = pc 8 (a / 256) + pc 8 (a % 256) := by rw [← pc_cat (by omega), ← e]
    rw [e3, hl]
    omega
  · have e1 : a - 1 = 256 * (a / 256) + (a % 256 - 1) := by omega
    have h1 := by4 (a % 256) (by omega) (by omega)
    rw [e1]
    have e2 : a &&& (256 * (a / 256) + (a % 256 - 1)) = 256 * (a / 256 &&& a / 256) + (a % 256 &&& (a % 256 - 1)) := by
      rw [← cat_and (by omega) (by omega), ← e]
    rw [e2, Nat.and_self, pc_cat (Nat.lt_of_le_of_lt Nat.and_le_left (by omega))]
    have e3 : pc 16 a = pc 8 (a / 256) + pc 8 (a % 256) := by rw [← pc_cat (by omega), ← e]
    rw [e3]
    omega
theorem pc_0 : pc 16 0 = 0 := by decide
theorem onM {s : Mem} : ∀ (a c m : Nat), a < 65536 → a < m → F_R_onesOf_4 m (nI c) (nI a) s = some (nI (c + pc 16 a), s) := by
  intro a
  induction a using Nat.strongRecOn with
  | ind a ih =>
    intro c m ha hm
    obtain ⟨m, rfl⟩ : ∃ m', m = m' + 1 := ⟨m - 1, by omega⟩
    by_cases h0 : a = 0
    · subst h0
      simp only [F_R_onesOf_4, show nI 0 = 0 from rfl, if_true, pc_0, Nat.add_zero]
    · obtain ⟨p1, p2⟩ := pc_less ha (by omega)
      have e1 : nI a - 1 = nI (a - 1) := n_sub (b := 1) (by omega)
      simp only [F_R_onesOf_4, if_neg (nI_ne0 (show 0 < a by omega) (show a < 2 ^ 31 by omega)), e1, fa_and, nI_1]
      rw [ih _ p2 (c + 1) m (by omega) (by omega), ← p1]
      congr 3
      omega
theorem R_onesOf {a : Nat} (ha : a < 65536) (s : Mem) : F_R_onesOf (nI a) s = some (nI (pc 16 a), s) := by
  have := onM (s := s) a 0 gF ha (by rw [gF_eq]; omega)
  rw [Nat.zero_add] at this
  exact this
theorem R_has {a k : Nat} (ha : a < 2 ^ 31) (hk : k < 31) (s : Mem) : F_R_has (nI a) (nI k) s = some (if a.testBit k = true then 1 else 0, s) := by
  unfold F_R_has
  rw [n_bit ha hk]
  by_cases h : a.testBit k = true
  · rw [if_pos h, if_pos h]
    rfl
  · rw [if_neg h, if_neg h]
    rfl
