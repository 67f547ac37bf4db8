/-! ===== ramp, box ===== -/
theorem W_at {o c len k : Nat} (hk : kd o = 11) (hr : rf o 0 = c) (hc : kd c = 1) (hl : ln c = len) (hlen : len < 2 ^ 31) (s : Mem) (h : k < len) : F_W_at o (nI k) s = some (s c k, s) := by
  have e1 : nI len - 1 = nI (len - 1) := n_sub (b := 1) (by omega)
  have e2 : 0 ≤ nI k ∧ nI k ≤ nI (len - 1) := ⟨nI_pos' (by omega), nI_le (by omega) (by omega)⟩
  simp only [F_W_at, hk, hr, hc, hl, show Nat.beq 11 11 = true from rfl, show Nat.beq 1 1 = true from rfl, Bool.true_or, cond_true, e1, C_within, Option.bind_some, b01, e2, and_self, not_true_eq_false, if_false]
  rw [ld_in hc (by rw [hl]; exact h) (by rw [hl]; exact hlen)]
  rfl
def rampV (w : Nat → Int32) (u h res : Int32) : Nat → Nat → Int32
  | 0, _ => res
  | r + 1, k => if h < w k then -1 else if w k ≤ u * (nI k + 1) then rampV w u h res r (k + 1) else -1
theorem rampV_c {w w' : Nat → Int32} {u h res : Int32} : ∀ (r k : Nat), (∀ j, k ≤ j → j < k + r → w j = w' j) → rampV w u h res r k = rampV w' u h res r k
  | 0, _, _ => rfl
  | r + 1, k, hw => by
    simp only [rampV, hw k (Nat.le_refl k) (by omega), rampV_c r (k + 1) (fun j h1 h2 => hw j (by omega) (by omega))]
theorem rampC {s : Mem} {u h : Int32} {n : Nat} (hn : n ≤ 8) (e : s 32 1 = nI n) (hu : 1 ≤ u) : ∀ (r k m : Nat), k + r = n → r < m → F_D_rampFoot_2 m u h (nI k) s = some (rampV (s 33) u h (if nI n < (h + u - 1) / u then (h + u - 1) / u else nI n) r k, s) := by
  have hu0 : ¬ u ≤ 0 := by
    rw [fa_le] at hu ⊢
    have : 1 ≤ u.toInt := hu
    show ¬ u.toInt ≤ 0
    omega
  have hu1 : ¬ u = 0 := by
    rintro rfl
    exact hu0 (by decide)
  intro r
  induction r with
  | zero =>
    intro k m hk hm
    obtain ⟨m, rfl⟩ : ∃ m', m = m' + 1 := ⟨m - 1, by omega⟩
    have : k = n := by omega
    subst this
    simp only [F_D_rampFoot_2, e, if_pos (nI_le (Nat.le_refl k) (by omega)), if_neg hu0, if_neg hu1, C_max, Option.bind_some, rampV]
  | succ r ih =>
    intro k m hk hm
    obtain ⟨m, rfl⟩ : ∃ m', m = m' + 1 := ⟨m - 1, by omega⟩
    have h1 : ¬ nI n ≤ nI k := nI_ge (by omega) (by omega)
    have ha := W_at (o := 32) (c := 33) (len := 8) rfl rfl rfl rfl (by decide) s (show k < 8 by omega)
    simp only [F_D_rampFoot_2, e, if_neg h1, ha, Option.bind_some, rampV, nI_1]
    by_cases h2 : h < s 33 k
    · simp only [if_pos h2]
    · by_cases h3 : s 33 k ≤ u * nI (k + 1)
      · simp only [if_neg h2, if_pos h3]
        exact ih (k + 1) m (by omega) (by omega)
      · simp only [if_neg h2, if_neg h3]
theorem rampM {s : Mem} {u h : Int32} {n : Nat} (hn : n ≤ 8) (e : s 123 61 = nI n) (hu : 1 ≤ u) : ∀ (r k m : Nat), k + r = n → r < m → F_R_ramp_19 m u h (nI k) s = some (rampV (s 157) u h (if nI n < (h + u - 1) / u then (h + u - 1) / u else nI n) r k, s) := by
  have hu1 : ¬ u = 0 := by
    rintro rfl
    exact absurd hu (by decide)
  intro r
  induction r with
  | zero =>
    intro k m hk hm
    obtain ⟨m, rfl⟩ : ∃ m', m = m' + 1 := ⟨m - 1, by omega⟩
    have : k = n := by omega
    subst this
    simp only [F_R_ramp_19, e, if_pos (nI_le (Nat.le_refl k) (by omega)), if_neg hu1, F_R_greater, rampV]
    by_cases h1 : nI k < (h + u - 1) / u
    · rw [if_pos h1, if_pos (fa_of_lt h1).1]
      rfl
    · rw [if_neg h1]
      by_cases h2 : nI k ≤ (h + u - 1) / u
      · rw [if_pos h2]
        have : nI k = (h + u - 1) / u := by
          rw [fa_lt] at h1
          rw [fa_le] at h2
          exact i_ext (by omega)
        rw [← this]
        rfl
      · rw [if_neg h2]
        rfl
  | succ r ih =>
    intro k m hk hm
    obtain ⟨m, rfl⟩ : ∃ m', m = m' + 1 := ⟨m - 1, by omega⟩
    have h1 : ¬ nI n ≤ nI k := nI_ge (by omega) (by omega)
    have ha : ld s 157 (nI k) = some (s 157 k) := ld_in rfl (show k < 8 by omega) (by decide)
    simp only [F_R_ramp_19, e, if_neg h1, ha, Option.bind_some, rampV, nI_1]
    by_cases h2 : h < s 157 k
    · simp only [if_pos h2]
    · by_cases h3 : s 157 k ≤ u * nI (k + 1)
      · simp only [if_neg h2, if_pos h3]
        exact ih (k + 1) m (by omega) (by omega)
      · simp only [if_neg h2, if_neg h3]
theorem g_ramp (a v : Int32) : Good Inv (F_C_ramp a v) (F_R_ramp a v) := by
  intro s h
  obtain ⟨⟨hHS, hHM, hBR, hLw, hOr, hVi, hDo, ⟨hT0, hT1, hT2, hT3, hT4, ⟨n, hn, e1, e2, e3, e4⟩, -⟩⟩, -⟩ := id h
  by_cases h1 : 1 ≤ a ∧ a ≤ 9
  · by_cases h2 : 0 ≤ v ∧ v ≤ 99
    · have hc := rampC (s := s) (u := a) (h := v) hn e1 h1.1 n 0 gF (Nat.zero_add n) (by rw [gF_eq]; omega)
      have hm := rampM (s := mw s 123 0 0) (u := a) (h := v) hn e2 h1.1 n 0 gF (Nat.zero_add n) (by rw [gF_eq]; omega)
      have hw : rampV ((mw s 123 0 0) 157) a v (if nI n < (v + a - 1) / a then (v + a - 1) / a else nI n) n 0 = rampV (s 33) a v (if nI n < (v + a - 1) / a then (v + a - 1) / a else nI n) n 0 := rampV_c n 0 (fun j _ hj => e3 j (by omega))
      rw [hw] at hm
      refine ⟨rampV (s 33) a v (if nI n < (v + a - 1) / a then (v + a - 1) / a else nI n) n 0, s, mw s 123 0 0, ?_, ?_, Inv_t h⟩
      · simp only [F_C_ramp, F_D_rampFoot, C_within, Option.bind_some, b01, h1, h2, and_self, not_true_eq_false, if_false]
        rw [show (0 : Int32) = nI 0 from rfl, hc]
        rfl
      · simp only [F_R_ramp, R_isIn, Option.bind_some, b01, h1, h2, and_self, not_true_eq_false, if_false]
        exact hm
    · refine ⟨-1, s, mw s 123 0 0, ?_, ?_, Inv_t h⟩
      · simp only [F_C_ramp, C_within, Option.bind_some, b01, h1, h2, and_self, not_true_eq_false, not_false_eq_true, if_false, if_true, one0]
      · simp only [F_R_ramp, R_isIn, Option.bind_some, b01, h1, h2, and_self, not_true_eq_false, not_false_eq_true, if_false, if_true, one0]
  · refine ⟨-1, s, mw s 123 0 0, ?_, ?_, Inv_t h⟩
    · simp only [F_C_ramp, C_within, Option.bind_some, b01, h1, not_false_eq_true, if_true]
    · simp only [F_R_ramp, R_isIn, Option.bind_some, b01, h1, not_false_eq_true, if_true]
/-! box -/
theorem two_adic : ∀ x, x < 100 → 0 < x → ∃ i, i < 7 ∧ x % 2 ^ i = 0 ∧ x / 2 ^ i % 2 = 1 := by decide +kernel
theorem two_ad {x : Nat} (h : x < 100) (h0 : 0 < x) : ∃ i o, i ≤ 6 ∧ x = 2 ^ i * (2 * o + 1) := by
  obtain ⟨i, h1, h2, h3⟩ := two_adic x h h0
  refine ⟨i, x / 2 ^ i / 2, by omega, ?_⟩
  have h4 : 2 * (x / 2 ^ i / 2) + 1 = x / 2 ^ i := by omega
  rw [h4]
  have := Nat.div_add_mod x (2 ^ i)
  omega
theorem odd2 (a b : Nat) : ∃ o, (2 * a + 1) * (2 * b + 1) = 2 * o + 1 := ⟨2 * a * b + a + b, by rw [Nat.mul_add, Nat.add_mul, Nat.mul_one, Nat.one_mul, Nat.mul_add, ← Nat.mul_assoc]; rw [Nat.mul_comm (2 * a) 2, Nat.mul_assoc 2 (2 * a) b]; omega⟩
theorem ad_mul {x y i j a b : Nat} (hx : x = 2 ^ i * (2 * a + 1)) (hy : y = 2 ^ j * (2 * b + 1)) : ∃ o, x * y = 2 ^ (i + j) * (2 * o + 1) := by
  obtain ⟨o, ho⟩ := odd2 a b
  refine ⟨o, ?_⟩
  rw [hx, hy, ← ho, Nat.pow_add]
  rw [Nat.mul_assoc, Nat.mul_assoc]
  congr 1
  rw [← Nat.mul_assoc, Nat.mul_comm (2 * a + 1) (2 ^ j), Nat.mul_assoc]
theorem no_zero {k o : Nat} (hk : k ≤ 30) : ¬ (2 ^ k * (2 * o + 1)) % 4294967296 = 0 := by
  intro h
  have h1 : 4294967296 ∣ 2 ^ k * (2 * o + 1) := Nat.dvd_of_mod_eq_zero h
  have h2 : 4294967296 = 2 ^ k * 2 ^ (32 - k) := by rw [← Nat.pow_add, show k + (32 - k) = 32 by omega]
  rw [h2] at h1
  have h3 := Nat.dvd_of_mul_dvd_mul_left (Nat.two_pow_pos k) h1
  have h4 : 2 ∣ 2 ^ (32 - k) := ⟨2 ^ (31 - k), by rw [show 32 - k = 31 - k + 1 by omega, Nat.pow_succ, Nat.mul_comm]⟩
  have h5 := Nat.dvd_trans h4 h3
  omega
theorem nI_z {x : Nat} : nI x = 0 ↔ x % 4294967296 = 0 := by
  constructor
  · intro h
    have h1 : (BitVec.ofNat 32 x).toNat = (0#32).toNat := congrArg (fun y : Int32 => y.toBitVec.toNat) h
    rw [BitVec.toNat_ofNat] at h1
    exact h1
  · intro h
    apply Int32.toBitVec_inj.mp
    apply BitVec.eq_of_toNat_eq
    show (BitVec.ofNat 32 x).toNat = (0#32).toNat
    rw [BitVec.toNat_ofNat]
    exact h
theorem prod5 {a b c d e : Nat} (ha : a < 100) (hb : b < 100) (hc : c < 100) (hd : d < 100) (he : e < 100) : (nI a * nI b * nI c * nI d * nI e = 0) ↔ (a = 0 ∨ b = 0 ∨ c = 0 ∨ d = 0 ∨ e = 0) := by
  rw [n_mul, n_mul, n_mul, n_mul, nI_z]
  constructor
  · intro h
    apply Classical.byContradiction
    intro hn
    obtain ⟨i1, o1, k1, q1⟩ := two_ad ha (by omega)
    obtain ⟨i2, o2, k2, q2⟩ := two_ad hb (by omega)
    obtain ⟨i3, o3, k3, q3⟩ := two_ad hc (by omega)
    obtain ⟨i4, o4, k4, q4⟩ := two_ad hd (by omega)
    obtain ⟨i5, o5, k5, q5⟩ := two_ad he (by omega)
    obtain ⟨p1, r1⟩ := ad_mul q1 q2
    obtain ⟨p2, r2⟩ := ad_mul r1 q3
    obtain ⟨p3, r3⟩ := ad_mul r2 q4
    obtain ⟨p4, r4⟩ := ad_mul r3 q5
    rw [r4] at h
    exact no_zero (by omega) h
  · rintro (h | h | h | h | h) <;> rw [h] <;> simp
def bxN (E : Nat → Nat) (d e i : Nat) : Nat → Nat → Nat
  | 0, _ => 0
  | r + 1, j => (if i ≠ j ∧ E i ≤ d ∧ E j ≤ e then 1 else 0) + bxN E d e i r (j + 1)
theorem box82 {k : Int32 → Int32 → Int32 → Int32 → Int32 → Mem → Option (Int32 × Mem)} {s : Mem} {E : Nat → Nat} {d e i : Nat} {x3 : Int32} (hE : ∀ j, j < 3 → s 158 j = nI (E j) ∧ E j < 100) (hd : d < 100) (he : e < 100) (hi : i < 3) : ∀ (r j c m : Nat), j + r = 3 → r < m → F_R_box_82 k m x3 (nI d) (nI e) (nI c) (nI i) (nI j) s = k x3 (nI d) (nI e) (nI (c + bxN E d e i r j)) (nI (i + 1)) s := by
  intro r
  induction r with
  | zero =>
    intro j c m hj hm
    obtain ⟨m, rfl⟩ : ∃ m', m = m' + 1 := ⟨m - 1, by omega⟩
    have : j = 3 := by omega
    subst this
    simp only [F_R_box_82, bxN, show (3 : Int32) ≤ nI 3 from by decide, if_true, nI_1, Nat.add_zero]
  | succ r ih =>
    intro j c m hj hm
    obtain ⟨m, rfl⟩ : ∃ m', m = m' + 1 := ⟨m - 1, by omega⟩
    have h1 : ¬ (3 : Int32) ≤ nI j := nI_ge (b := 3) (by omega) (by decide)
    have l1 : ld s 158 (nI i) = some (nI (E i)) := (ld_in rfl (show i < 3 by omega) (by decide)).trans (congrArg some (hE i hi).1)
    have l2 : ld s 158 (nI j) = some (nI (E j)) := (ld_in rfl (show j < 3 by omega) (by decide)).trans (congrArg some (hE j (by omega)).1)
    have b1 := (hE i hi).2
    have b2 := (hE j (by omega)).2
    simp only [F_R_box_82, if_neg h1, l1, l2, Option.bind_some, nI_eq (show i < 2 ^ 31 by omega) (show j < 2 ^ 31 by omega), nI_ltI (show d < 2 ^ 31 by omega) (show E i < 2 ^ 31 by omega), nI_ltI (show e < 2 ^ 31 by omega) (show E j < 2 ^ 31 by omega), nI_1, bxN]
    by_cases h2 : i = j
    · rw [if_pos h2, if_neg (fun q => q.1 h2), ih (j + 1) c m (by omega) (by omega), Nat.zero_add]
    · rw [if_neg h2]
      by_cases h3 : d < E i
      · rw [if_pos h3, if_neg (by omega), ih (j + 1) c m (by omega) (by omega), Nat.zero_add]
      · rw [if_neg h3]
        by_cases h4 : e < E j
        · rw [if_pos h4, if_neg (by omega), ih (j + 1) c m (by omega) (by omega), Nat.zero_add]
        · rw [if_neg h4, if_pos (by omega), ih (j + 1) (c + 1) m (by omega) (by omega), Nat.add_assoc]
def bxS (E : Nat → Nat) (d e : Nat) : Nat → Nat → Nat
  | 0, _ => 0
  | r + 1, i => bxN E d e i 3 0 + bxS E d e r (i + 1)
theorem box77 {s : Mem} {E : Nat → Nat} {d e : Nat} {x3 : Int32} (hE : ∀ j, j < 3 → s 158 j = nI (E j) ∧ E j < 100) (hd : d < 100) (he : e < 100) : ∀ (r i c m : Nat), i + r = 3 → r < m → F_R_box_77 m x3 (nI d) (nI e) (nI c) (nI i) s = if x3 = 1 then some (nI (c + bxS E d e r i), s) else if nI (c + bxS E d e r i) ≤ 0 then some (0, s) else some (1, s) := by
  intro r
  induction r with
  | zero =>
    intro i c m hj hm
    obtain ⟨m, rfl⟩ : ∃ m', m = m' + 1 := ⟨m - 1, by omega⟩
    have : i = 3 := by omega
    subst this
    simp only [F_R_box_77, bxS, show (3 : Int32) ≤ nI 3 from by decide, if_true, Nat.add_zero]
    rfl
  | succ r ih =>
    intro i c m hj hm
    obtain ⟨m, rfl⟩ : ∃ m', m = m' + 1 := ⟨m - 1, by omega⟩
    have h1 : ¬ (3 : Int32) ≤ nI i := nI_ge (b := 3) (by omega) (by decide)
    simp only [F_R_box_77, if_neg h1]
    rw [show (0 : Int32) = nI 0 from rfl, box82 hE hd he (by omega) 3 0 c gF rfl (by rw [gF_eq]; omega), ih (i + 1) _ m (by omega) (by omega), bxS, Nat.add_assoc]
    rfl
theorem D_side {a b d e : Nat} (ha : a < 100) (hb : b < 100) (hd : d < 100) (he : e < 100) (s : Mem) : F_D_waysOfSide (nI a) (nI b) (nI d) (nI e) s = some (nI ((if a ≤ d ∧ b ≤ e then 1 else 0) + if b ≤ d ∧ a ≤ e then 1 else 0), s) := by
  simp only [F_D_waysOfSide, nI_ltI (show d < 2 ^ 31 by omega) (show a < 2 ^ 31 by omega), nI_ltI (show d < 2 ^ 31 by omega) (show b < 2 ^ 31 by omega), nI_ltI (show e < 2 ^ 31 by omega) (show a < 2 ^ 31 by omega), nI_ltI (show e < 2 ^ 31 by omega) (show b < 2 ^ 31 by omega)]
  by_cases h1 : d < a <;> by_cases h2 : d < b <;> by_cases h3 : e < a <;> by_cases h4 : e < b <;> simp [h1, h2, h3, h4, Nat.not_le.mpr, Nat.not_lt.mp, Nat.le_of_not_lt] <;> rfl
