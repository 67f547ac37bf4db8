/-! ===== missing ===== -/
theorem n_btA (a : Nat) (i : Nat) (hi : i < 32) : bt (nI a) i = a.testBit i := by
  unfold bt nI
  show (BitVec.ofNat 32 a).getLsbD i = _
  rw [BitVec.getLsbD_ofNat]
  simp [hi]
theorem n_not {a : Nat} (ha : a < 4294967296) : nI a ^^^ (-1) = nI (4294967295 - a) := by
  apply b_ext
  intro i hi
  rw [b_xor, b_m1 i hi, n_btA _ i hi, n_btA _ i hi]
  have := Nat.testBit_two_pow_sub_succ (n := 32) ha i
  rw [show (2 : Nat) ^ 32 - (a + 1) = 4294967295 - a by omega] at this
  rw [this]
  simp [hi]
set_option maxRecDepth 100000 in
theorem by5 : ∀ l, l < 256 → ∃ k, k < 9 ∧ (∀ i, i < k → l.testBit i = true) ∧ (k < 8 → l.testBit k = false ∧ l < 255 ∧ l &&& (254 - l) = 2 ^ k - 1) ∧ (k = 8 → l = 255) ∧ l &&& (16777215 - l) = 0 ∧ l &&& (16777214 - l) = 2 ^ k - 1 := by decide +kernel
theorem lowz {a : Nat} (ha : a < 65536) : ∃ k, k ≤ 16 ∧ (∀ i, i < k → a.testBit i = true) ∧ (k < 16 → a.testBit k = false) ∧ a &&& (4294967294 - a) = 2 ^ k - 1 := by
  have e : a = 256 * (a / 256) + a % 256 := by omega
  have hb : ∀ i, a.testBit i = if i < 8 then (a % 256).testBit i else (a / 256).testBit (i - 8) := by
    intro i
    have := cat_bit (h := a / 256) (l := a % 256) (by omega) i
    rwa [← e] at this
  obtain ⟨k, k1, k2, k3, k4, -, -⟩ := by5 (a % 256) (by omega)
  by_cases hk : k < 8
  · obtain ⟨m1, m2, m3⟩ := k3 hk
    obtain ⟨k', -, -, -, -, z1, -⟩ := by5 (a / 256) (by omega)
    refine ⟨k, by omega, fun i hi => ?_, fun _ => ?_, ?_⟩
    · rw [hb, if_pos (by omega)]; exact k2 i hi
    · rw [hb, if_pos hk]; exact m1
    · have e1 : 4294967294 - a = 256 * (16777215 - a / 256) + (254 - a % 256) := by omega
      rw [e1]
      have e2 : a &&& (256 * (16777215 - a / 256) + (254 - a % 256)) = 256 * (a / 256 &&& (16777215 - a / 256)) + (a % 256 &&& (254 - a % 256)) := by
        rw [← cat_and (by omega) (by omega), ← e]
      rw [e2, z1, m3]
      omega
  · have hk8 : k = 8 := by omega
    subst hk8
    have hl := k4 rfl
    obtain ⟨k', j1, j2, j3, j4, -, z2⟩ := by5 (a / 256) (by omega)
    refine ⟨8 + k', by omega, fun i hi => ?_, fun hh => ?_, ?_⟩
    · rw [hb]
      by_cases h8 : i < 8
      · rw [if_pos h8]; exact k2 i h8
      · rw [if_neg h8]; exact j2 (i - 8) (by omega)
    · rw [hb, if_neg (by omega), show 8 + k' - 8 = k' by omega]; exact (j3 (by omega)).1
    · have e1 : 4294967294 - a = 256 * (16777214 - a / 256) + 255 := by omega
      rw [e1]
      have e2 : a &&& (256 * (16777214 - a / 256) + 255) = 256 * (a / 256 &&& (16777214 - a / 256)) + (a % 256 &&& 255) := by
        rw [← cat_and (by omega) (by omega), ← e]
      rw [e2, z2, hl, Nat.and_self, Nat.pow_add]
      have := Nat.two_pow_pos k'
      omega
theorem C_ntz {a k : Nat} (ha : a < 65536) (hk : k ≤ 16) (h : a &&& (4294967294 - a) = 2 ^ k - 1) (s : Mem) : F_JI_numberOfTrailingZeros (nI a ^^^ (-1)) s = some (nI k, s) := by
  have e0 : nI a ^^^ (-1) = nI (4294967295 - a) := n_not (by omega)
  have e1 : nI (4294967295 - a) ^^^ (-1) = nI a := by
    rw [n_not (by omega)]
    congr 1
    omega
  have e2 : nI (4294967295 - a) - 1 = nI (4294967294 - a) := by
    have := n_sub (a := 4294967295 - a) (b := 1) (by omega)
    rw [show 4294967295 - a - 1 = 4294967294 - a by omega] at this
    exact this
  have e3 : (nI (4294967295 - a) ^^^ (-1)) &&& (nI (4294967295 - a) - 1) = nI (2 ^ k - 1) := by rw [e1, e2, fa_and, h]
  rw [e0]
  simp only [F_JI_numberOfTrailingZeros, e3]
  rcases (show k = 0 ∨ k = 1 ∨ k = 2 ∨ k = 3 ∨ k = 4 ∨ k = 5 ∨ k = 6 ∨ k = 7 ∨ k = 8 ∨ k = 9 ∨ k = 10 ∨ k = 11 ∨ k = 12 ∨ k = 13 ∨ k = 14 ∨ k = 15 ∨ k = 16 by omega) with rfl | rfl | rfl | rfl | rfl | rfl | rfl | rfl | rfl | rfl | rfl | rfl | rfl | rfl | rfl | rfl | rfl <;> rfl
theorem C_ntz2 {k : Nat} (hk : k < 16) (s : Mem) : F_JI_numberOfTrailingZeros (nI (2 ^ k)) s = some (nI k, s) := by
  rcases (show k = 0 ∨ k = 1 ∨ k = 2 ∨ k = 3 ∨ k = 4 ∨ k = 5 ∨ k = 6 ∨ k = 7 ∨ k = 8 ∨ k = 9 ∨ k = 10 ∨ k = 11 ∨ k = 12 ∨ k = 13 ∨ k = 14 ∨ k = 15 by omega) with rfl | rfl | rfl | rfl | rfl | rfl | rfl | rfl | rfl | rfl | rfl | rfl | rfl | rfl | rfl | rfl <;> rfl
theorem pc_one {a : Nat} (ha : a < 65536) (h : pc 16 a = 1) : ∃ k, k < 16 ∧ a = 2 ^ k := by
  obtain ⟨k, hk, hb⟩ := fb_ct_pos.mp (show 0 < fb_ct (fun i => a.testBit i) 16 by have : fb_ct (fun i => a.testBit i) 16 = 1 := h; omega)
  refine ⟨k, hk, ?_⟩
  have h1 := fb_ct_upd (fun i => a.testBit i) false hk
  have hb' : a.testBit k = true := hb
  rw [show fb_ct (fun i => a.testBit i) 16 = 1 from h] at h1
  simp only [hb', if_true, Bool.false_eq_true, if_false] at h1
  have h2 : fb_ct (fun j => if j = k then false else a.testBit j) 16 = 0 := by omega
  have h3 := fb_ct_zero.mp h2
  apply Nat.eq_of_testBit_eq
  intro i
  rw [Nat.testBit_two_pow]
  by_cases hi : i = k
  · rw [hi, hb']; simp
  · have hki : ¬ k = i := fun q => hi q.symm
    by_cases h16 : i < 16
    · have := h3 i h16
      rw [if_neg hi] at this
      rw [this]; simp [hki]
    · rw [Nat.testBit_lt_two_pow (Nat.lt_of_lt_of_le ha (Nat.pow_le_pow_right (n := 2) (by decide) (show 16 ≤ i by omega)))]
      simp [hki]
/-- the set that was told, and the odd ones -/
def orV (c : Nat → Nat) : Nat → Nat
  | 0 => 0
  | n + 1 => orV c n ||| 2 ^ c n
def xoV (c : Nat → Nat) : Nat → Nat
  | 0 => 0
  | n + 1 => xoV c n ^^^ 2 ^ c n
theorem orV_lt {c : Nat → Nat} : ∀ {n : Nat}, (∀ k, k < n → c k ≤ 15) → orV c n < 65536
  | 0, _ => (by decide : 0 < 65536)
  | n + 1, h => Nat.or_lt_two_pow (n := 16) (orV_lt (fun k hk => h k (by omega))) (Nat.pow_lt_pow_right (by decide) (by have := h n (by omega); omega))
theorem xoV_lt {c : Nat → Nat} : ∀ {n : Nat}, (∀ k, k < n → c k ≤ 15) → xoV c n < 65536
  | 0, _ => (by decide : 0 < 65536)
  | n + 1, h => Nat.xor_lt_two_pow (n := 16) (xoV_lt (fun k hk => h k (by omega))) (Nat.pow_lt_pow_right (by decide) (by have := h n (by omega); omega))
theorem luC {s : Mem} {c : Nat → Nat} {n k0 : Nat} (hn : n ≤ 12) (e : s 28 1 = nI n) (hc : ∀ k, k < n → s 29 k = nI (c k) ∧ c k ≤ 15) (hk0 : k0 ≤ 16) (hz : orV c n &&& (4294967294 - orV c n) = 2 ^ k0 - 1) : ∀ (q k m : Nat), k + q = n → q < m → F_D_leastUntold_4 m (nI (orV c k)) (nI k) s = some (nI k0, s) := by
  intro q
  induction q with
  | zero =>
    intro k m hk hm
    obtain ⟨m, rfl⟩ : ∃ m', m = m' + 1 := ⟨m - 1, by omega⟩
    have : k = n := by omega
    subst this
    simp only [F_D_leastUntold_4, e, if_pos (nI_le (Nat.le_refl k) (show k < 2 ^ 31 by omega)), C_ntz (orV_lt (fun k hk => (hc k hk).2)) hk0 hz, Option.bind_some]
  | succ q ih =>
    intro k m hk hm
    obtain ⟨m, rfl⟩ : ∃ m', m = m' + 1 := ⟨m - 1, by omega⟩
    have ha := W_at (o := 28) (c := 29) (len := 12) rfl rfl rfl rfl (by decide) s (show k < 12 by omega)
    obtain ⟨c1, c2⟩ := hc k (by omega)
    rw [c1] at ha
    simp only [F_D_leastUntold_4, e, if_neg (nI_ge (show k < n by omega) (show n < 2 ^ 31 by omega)), ha, Option.bind_some, n_shl1 (show c k < 32 by omega), fa_or, nI_1]
    exact ih (k + 1) m (by omega) (by omega)
theorem ooC {s : Mem} {c : Nat → Nat} {n : Nat} (hn : n ≤ 12) (e : s 28 1 = nI n) (hc : ∀ k, k < n → s 29 k = nI (c k) ∧ c k ≤ 15) : ∀ (q k m : Nat), k + q = n → q < m → F_D_onlyOdd_4 m (nI (xoV c k)) (nI k) s = (if pc 16 (xoV c n) = 1 then (F_JI_numberOfTrailingZeros (nI (xoV c n)) s).bind fun z => some (z.1, z.2) else some (-1, s)) := by
  intro q
  induction q with
  | zero =>
    intro k m hk hm
    obtain ⟨m, rfl⟩ : ∃ m', m = m' + 1 := ⟨m - 1, by omega⟩
    have : k = n := by omega
    subst this
    have hlt := xoV_lt (c := c) (n := k) (fun k hk => (hc k hk).2)
    have hp : pc 16 (xoV c k) ≤ 16 := fb_ct_le _ 16
    have e1 : (nI (pc 16 (xoV c k)) = 1) ↔ pc 16 (xoV c k) = 1 := nI_eq (b := 1) (by omega) (by decide)
    simp only [F_D_onlyOdd_4, e, if_pos (nI_le (Nat.le_refl k) (show k < 2 ^ 31 by omega)), C_bitCount hlt, Option.bind_some, e1]
  | succ q ih =>
    intro k m hk hm
    obtain ⟨m, rfl⟩ : ∃ m', m = m' + 1 := ⟨m - 1, by omega⟩
    have ha := W_at (o := 28) (c := 29) (len := 12) rfl rfl rfl rfl (by decide) s (show k < 12 by omega)
    obtain ⟨c1, c2⟩ := hc k (by omega)
    rw [c1] at ha
    simp only [F_D_onlyOdd_4, e, if_neg (nI_ge (show k < n by omega) (show n < 2 ^ 31 by omega)), ha, Option.bind_some, n_shl1 (show c k < 32 by omega), fb_xorI, nI_1]
    exact ih (k + 1) m (by omega) (by omega)
theorem msM {s : Mem} {c : Nat → Nat} {n : Nat} {w : Int32} (hn : n ≤ 12) (e : s 123 55 = nI n) (hc : ∀ k, k < n → s 153 k = nI (c k) ∧ c k ≤ 15) : ∀ (q k m : Nat), k + q = n → q < m → F_R_missing_9 m w (nI (xoV c k)) (nI (orV c k)) (nI k) s = F_R_missing_35 gF w (nI (xoV c n)) (nI (orV c n)) 0 s := by
  intro q
  induction q with
  | zero =>
    intro k m hk hm
    obtain ⟨m, rfl⟩ : ∃ m', m = m' + 1 := ⟨m - 1, by omega⟩
    have : k = n := by omega
    subst this
    simp only [F_R_missing_9, e, if_pos (nI_le (Nat.le_refl k) (show k < 2 ^ 31 by omega))]
  | succ q ih =>
    intro k m hk hm
    obtain ⟨m, rfl⟩ : ∃ m', m = m' + 1 := ⟨m - 1, by omega⟩
    obtain ⟨c1, c2⟩ := hc k (by omega)
    have ha : ld s 153 (nI k) = some (nI (c k)) := (ld_in rfl (show k < 12 by omega) (by decide)).trans (congrArg some c1)
    simp only [F_R_missing_9, e, if_neg (nI_ge (show k < n by omega) (show n < 2 ^ 31 by omega)), ha, Option.bind_some, n_shl1 (show c k < 32 by omega), fb_xorI, fa_or, nI_1]
    exact ih (k + 1) m (by omega) (by omega)
theorem m35a {s : Mem} {x a k0 : Nat} (ha : a < 65536) (hk0 : k0 ≤ 16) (h1 : ∀ i, i < k0 → a.testBit i = true) (h2 : k0 < 16 → a.testBit k0 = false) : ∀ (q k m : Nat), k + q = k0 → q < m → F_R_missing_35 m 0 (nI x) (nI a) (nI k) s = some (nI k0, s) := by
  have hb16 : a.testBit 16 = false := Nat.testBit_lt_two_pow ha
  intro q
  induction q with
  | zero =>
    intro k m hk hm
    obtain ⟨m, rfl⟩ : ∃ m', m = m' + 1 := ⟨m - 1, by omega⟩
    have : k = k0 := by omega
    subst this
    have hb : ¬ a.testBit k = true := by
      by_cases c : k < 16
      · rw [h2 c]; simp
      · rw [show k = 16 by omega, hb16]; simp
    simp only [F_R_missing_35, if_true, R_has (show a < 2 ^ 31 by omega) (show k < 31 by omega), Option.bind_some, if_neg hb]
  | succ q ih =>
    intro k m hk hm
    obtain ⟨m, rfl⟩ : ∃ m', m = m' + 1 := ⟨m - 1, by omega⟩
    simp only [F_R_missing_35, if_true, R_has (show a < 2 ^ 31 by omega) (show k < 31 by omega), Option.bind_some, if_pos (h1 k (by omega)), one0, if_false, if_neg (show ¬ (16 : Int32) ≤ nI k from nI_ge (b := 16) (by omega) (by decide)), nI_1]
    exact ih (k + 1) m (by omega) (by omega)
/-- the end of the second loop -/
def m35e (w : Int32) (x v : Nat) (s : Mem) : Option (Int32 × Mem) := if w = 1 then (if pc 16 x = 1 then some (nI v, s) else some (-1, s)) else some (-1, s)
theorem n_hasN {x k : Nat} (hx : x < 65536) (hk : k < 31) (s : Mem) : F_R_has (nI x ^^^ (-1)) (nI k) s = some (if x.testBit k = true then 0 else 1, s) := by
  unfold F_R_has
  have e1 : shr (nI x ^^^ (-1)) (nI k) &&& 1 = nI (if x.testBit k = true then 0 else 1) := by
    apply b_ext
    intro i hi
    rw [b_and]
    unfold shr
    rw [b_sshr k (by omega) _ hi, n_btA _ i hi]
    by_cases h0 : i = 0
    · subst h0
      rw [if_pos (by omega), b_xor, b_m1 _ (by omega), n_btA _ _ (by omega), show bt 1 0 = true from rfl, Nat.add_zero]
      by_cases c : x.testBit k = true
      · rw [if_pos c, c]; rfl
      · rw [if_neg c]
        simp only [Bool.not_eq_true] at c
        rw [c]; rfl
    · have : bt 1 i = false := by
        have := n_btA 1 i hi
        rw [show nI 1 = 1 from rfl] at this
        rw [this]
        exact Nat.testBit_lt_two_pow (Nat.lt_of_lt_of_le (show 1 < 2 ^ 1 by decide) (Nat.pow_le_pow_right (by decide) (by omega)))
      rw [this, Bool.and_false]
      symm
      apply Nat.testBit_lt_two_pow
      have h2 : 2 ^ 1 ≤ 2 ^ i := Nat.pow_le_pow_right (by decide) (by omega)
      split <;> omega
  rw [e1]
  by_cases c : x.testBit k = true
  · rw [if_pos c, if_pos c]; rfl
  · rw [if_neg c, if_neg c]; rfl
theorem m35b {s : Mem} {x a : Nat} {w : Int32} (hw : ¬ w = 0) (hx : x < 65536) : ∀ (q k m : Nat), k + q = 16 → q < m → ∃ v, k ≤ v ∧ v ≤ 16 ∧ (∀ i, k ≤ i → i < v → x.testBit i = false) ∧ (v < 16 → x.testBit v = true) ∧ F_R_missing_35 m w (nI x) (nI a) (nI k) s = m35e w x v s := by
  have hp : pc 16 x ≤ 16 := fb_ct_le _ 16
  have e1 : (nI (pc 16 x) = 1) ↔ pc 16 x = 1 := nI_eq (b := 1) (by omega) (by decide)
  intro q
  induction q with
  | zero =>
    intro k m hk hm
    obtain ⟨m, rfl⟩ : ∃ m', m = m' + 1 := ⟨m - 1, by omega⟩
    have : k = 16 := by omega
    subst this
    refine ⟨16, Nat.le_refl _, Nat.le_refl _, fun i _ _ => by omega, fun h => by omega, ?_⟩
    simp only [F_R_missing_35, if_neg hw, n_hasN hx (show 16 < 31 by decide), Option.bind_some, R_onesOf hx, e1, show (16 : Int32) ≤ nI 16 from by decide, if_true, m35e]
    split <;> rfl
  | succ q ih =>
    intro k m hk hm
    obtain ⟨m, rfl⟩ : ∃ m', m = m' + 1 := ⟨m - 1, by omega⟩
    by_cases c : x.testBit k = true
    · refine ⟨k, Nat.le_refl _, by omega, fun i _ _ => by omega, fun _ => c, ?_⟩
      simp only [F_R_missing_35, if_neg hw, n_hasN hx (show k < 31 by omega), Option.bind_some, if_pos c, if_true, R_onesOf hx, e1, m35e]
    · obtain ⟨v, v1, v2, v3, v4, v5⟩ := ih (k + 1) m (by omega) (by omega)
      refine ⟨v, by omega, v2, fun i h1 h2 => ?_, v4, ?_⟩
      · by_cases hi : i = k
        · rw [hi]; simpa using c
        · exact v3 i (by omega) h2
      · simp only [F_R_missing_35, if_neg hw, n_hasN hx (show k < 31 by omega), Option.bind_some, if_neg c, one0, if_false, if_neg (show ¬ (16 : Int32) ≤ nI k from nI_ge (b := 16) (by omega) (by decide)), nI_1]
        exact v5
theorem g_missing (w : Int32) : Good Inv (F_C_missing w) (F_R_missing w) := by
  intro s h
  obtain ⟨⟨hHS, hHM, hBR, hLw, hOr, hVi, hDo, ⟨hT0, hT1, hT2, ⟨n, hn, e1, e2, e3, e4⟩, -⟩⟩, -⟩ := id h
  have e1 : s 28 1 = nI n := e1
  have e2 : (mw s 123 0 0) 123 55 = nI n := e2
  obtain ⟨c, hc⟩ : ∃ c : Nat → Nat, ∀ k, k < n → s 29 k = nI (c k) ∧ c k ≤ 15 := by
    refine ⟨fun k => (s 29 k).toNatClampNeg, fun k hk => ?_⟩
    obtain ⟨v, -, h2, h3⟩ := e4 k hk
    have h3 : s 29 k = nI v := h3
    show s 29 k = nI (s 29 k).toNatClampNeg ∧ (s 29 k).toNatClampNeg ≤ 15
    rw [h3, nI_clamp (by omega)]
    exact ⟨rfl, h2⟩
  have hcM : ∀ k, k < n → (mw s 123 0 0) 153 k = nI (c k) ∧ c k ≤ 15 := fun k hk => ⟨(e3 k (by omega)).trans (hc k hk).1, (hc k hk).2⟩
  have hm := msM (s := mw s 123 0 0) (w := w) hn e2 hcM n 0 gF (Nat.zero_add n) (by rw [gF_eq]; omega)
  have hR : F_R_missing w s = F_R_missing_35 gF w (nI (xoV c n)) (nI (orV c n)) 0 (mw s 123 0 0) := hm
  by_cases h0 : w = 0
  · subst h0
    have hlt := orV_lt (c := c) (n := n) (fun k hk => (hc k hk).2)
    obtain ⟨k0, z1, z2, z3, z4⟩ := lowz hlt
    refine ⟨nI k0, s, mw s 123 0 0, ?_, ?_, Inv_t h⟩
    · have := luC hn e1 hc z1 z4 n 0 gF (Nat.zero_add n) (by rw [gF_eq]; omega)
      simp only [F_C_missing, if_true, F_D_leastUntold]
      rw [show (0 : Int32) = nI 0 from rfl, show nI 0 = nI (orV c 0) from rfl]
      rw [show F_D_leastUntold_4 gF (nI (orV c 0)) (nI (orV c 0)) s = _ from this]
      rfl
    · rw [hR]
      exact m35a hlt z1 z2 z3 k0 0 gF (Nat.zero_add k0) (by rw [gF_eq]; omega)
  · have hlt := xoV_lt (c := c) (n := n) (fun k hk => (hc k hk).2)
    obtain ⟨v, v1, v2, v3, v4, v5⟩ := m35b (s := mw s 123 0 0) (a := orV c n) h0 hlt 16 0 gF rfl (by rw [gF_eq]; omega)
    have hR2 : F_R_missing w s = m35e w (xoV c n) v (mw s 123 0 0) := hR.trans v5
    by_cases hw1 : w = 1
    · subst hw1
      have hC := ooC hn e1 hc n 0 gF (Nat.zero_add n) (by rw [gF_eq]; omega)
      have hC' : F_C_missing 1 s = (F_D_onlyOdd s).bind fun z => some (z.1, z.2) := by
        simp only [F_C_missing, one0, if_false, if_true]
      have hC2 : F_D_onlyOdd s = (if pc 16 (xoV c n) = 1 then (F_JI_numberOfTrailingZeros (nI (xoV c n)) s).bind fun z => some (z.1, z.2) else some (-1, s)) := hC
      by_cases hp : pc 16 (xoV c n) = 1
      · obtain ⟨k, hk, ek⟩ := pc_one hlt hp
        have hvk : v = k := by
          have hbk : ∀ i, (xoV c n).testBit i = decide (k = i) := fun i => by rw [ek, Nat.testBit_two_pow]
          by_cases q1 : v < k
          · have := v4 (by omega)
            rw [hbk] at this
            simp at this
            omega
          · by_cases q2 : k < v
            · have := v3 k (Nat.zero_le k) q2
              rw [hbk] at this
              simp at this
            · omega
        refine ⟨nI k, s, mw s 123 0 0, ?_, ?_, Inv_t h⟩
        · rw [hC', hC2, if_pos hp, ek, C_ntz2 hk]
          rfl
        · rw [hR2, m35e, if_pos rfl, if_pos hp, hvk]
      · refine ⟨-1, s, mw s 123 0 0, ?_, ?_, Inv_t h⟩
        · rw [hC', hC2, if_neg hp]
          rfl
        · rw [hR2, m35e, if_pos rfl, if_neg hp]
    · refine ⟨-1, s, mw s 123 0 0, ?_, ?_, Inv_t h⟩
      · simp only [F_C_missing, if_neg h0, if_neg hw1]
      · rw [hR2, m35e, if_neg hw1]
