/-! ===== numbers ===== -/
theorem i_add {x y : Int32} (h1 : -2147483648 ≤ x.toInt + y.toInt) (h2 : x.toInt + y.toInt < 2147483648) : (x + y).toInt = x.toInt + y.toInt := by
  rw [Int32.toInt_add]
  exact fb_bmod h1 h2
theorem i_sub {x y : Int32} (h1 : -2147483648 ≤ x.toInt - y.toInt) (h2 : x.toInt - y.toInt < 2147483648) : (x - y).toInt = x.toInt - y.toInt := by
  rw [Int32.toInt_sub]
  exact fb_bmod h1 h2
theorem i_mul {x y : Int32} (h1 : -2147483648 ≤ x.toInt * y.toInt) (h2 : x.toInt * y.toInt < 2147483648) : (x * y).toInt = x.toInt * y.toInt := by
  rw [Int32.toInt_mul]
  exact fb_bmod h1 h2
theorem i_div {x y : Int32} (hx : 0 ≤ x.toInt) (hy : 0 < y.toInt) : (x / y).toInt = x.toInt / y.toInt := by
  rw [Int32.toInt_div, Int.tdiv_eq_ediv_of_nonneg hx]
  have h1 := fb_rng x
  have h2 : x.toInt / y.toInt ≤ x.toInt := Int.ediv_le_self _ hx
  have h3 : 0 ≤ x.toInt / y.toInt := Int.ediv_nonneg hx (by omega)
  exact fb_bmod (by omega) (by omega)
theorem i_irm {x y : Int32} (hx : 0 ≤ x.toInt) (hy : 0 < y.toInt) : (irm x y).toInt = x.toInt % y.toInt := by
  have h1 := fb_rng x
  have hd := i_div hx hy
  have h2 : 0 ≤ x.toInt % y.toInt := Int.emod_nonneg _ (by omega)
  have h3 : x.toInt / y.toInt * y.toInt = x.toInt - x.toInt % y.toInt := by
    have := Int.ediv_mul_add_emod x.toInt y.toInt
    omega
  have h4 : x.toInt % y.toInt ≤ x.toInt := by
    have h5 : 0 ≤ x.toInt / y.toInt * y.toInt := Int.mul_nonneg (Int.ediv_nonneg hx (by omega)) (by omega)
    omega
  have hm : (x / y * y).toInt = x.toInt - x.toInt % y.toInt := by
    rw [i_mul (by rw [hd, h3]; omega) (by rw [hd, h3]; omega), hd, h3]
  unfold irm
  rw [i_sub (by rw [hm]; omega) (by rw [hm]; omega), hm]
  omega
theorem i_ext {x y : Int32} (h : x.toInt = y.toInt) : x = y := Int32.toInt_inj.mp h
theorem n_mul (a b : Nat) : nI a * nI b = nI (a * b) := by
  unfold nI
  rw [Int32.ofNat_mul]
theorem n_sub {a b : Nat} (h : b ≤ a) : nI a - nI b = nI (a - b) := by
  have : nI a = nI (a - b) + nI b := by
    rw [nI_add]
    congr 1
    omega
  rw [this, Int32.add_sub_cancel]
theorem n_div {a b : Nat} (ha : a < 2 ^ 31) (hb : 0 < b) (hb2 : b < 2 ^ 31) : nI a / nI b = nI (a / b) := by
  apply i_ext
  rw [i_div (by rw [nI_toInt ha]; omega) (by rw [nI_toInt hb2]; omega), nI_toInt ha, nI_toInt hb2, nI_toInt (Nat.lt_of_le_of_lt (Nat.div_le_self a b) ha)]
  rfl
theorem n_irm {a b : Nat} (ha : a < 2 ^ 31) (hb : 0 < b) (hb2 : b < 2 ^ 31) : irm (nI a) (nI b) = nI (a % b) := by
  apply i_ext
  rw [i_irm (by rw [nI_toInt ha]; omega) (by rw [nI_toInt hb2]; omega), nI_toInt ha, nI_toInt hb2, nI_toInt (Nat.lt_of_le_of_lt (Nat.mod_le a b) ha)]
  rfl
theorem n_of {x : Int32} (h : 0 ≤ x.toInt) : x = nI x.toInt.toNat := by
  have h1 := fb_rng x
  apply i_ext
  rw [nI_toInt (by omega)]
  omega
theorem n_bt {a : Nat} (ha : a < 2 ^ 31) (i : Nat) (hi : i < 32) : bt (nI a) i = a.testBit i := by
  unfold bt nI
  show (BitVec.ofNat 32 a).getLsbD i = _
  rw [BitVec.getLsbD_ofNat]
  simp [hi]
theorem n_shl {a k : Nat} (hk : k < 32) : shl (nI a) (nI k) = nI (a * 2 ^ k) := by
  have hs := s_l k hk
  unfold shl
  apply Int32.toBitVec_inj.mp
  rw [Int32.toBitVec_shiftLeft]
  show (BitVec.ofNat 32 a) <<< ((nI k &&& 31).toBitVec.smod 32).toNat = BitVec.ofNat 32 (a * 2 ^ k)
  rw [hs]
  apply BitVec.eq_of_toNat_eq
  rw [BitVec.toNat_shiftLeft, BitVec.toNat_ofNat, BitVec.toNat_ofNat, Nat.shiftLeft_eq, Nat.mod_mul_mod]
theorem n_shl1 {k : Nat} (hk : k < 32) : shl 1 (nI k) = nI (2 ^ k) := by
  have := n_shl (a := 1) hk
  rw [Nat.one_mul] at this
  exact this
theorem n_shr {a k : Nat} (ha : a < 2 ^ 31) (hk : k < 32) : shr (nI a) (nI k) = nI (a / 2 ^ k) := by
  apply b_ext
  intro i hi
  unfold shr
  rw [b_sshr k hk _ hi, n_bt (Nat.lt_of_le_of_lt (Nat.div_le_self _ _) ha) i hi, ← Nat.shiftRight_eq_div_pow, Nat.testBit_shiftRight]
  by_cases h : k + i < 32
  · rw [if_pos h, n_bt ha _ h]
  · rw [if_neg h, n_bt ha 31 (by omega)]
    rw [Nat.testBit_lt_two_pow ha, Nat.testBit_lt_two_pow]
    exact Nat.lt_of_lt_of_le ha (Nat.pow_le_pow_right (by decide) (by omega))
theorem n_bit {a k : Nat} (ha : a < 2 ^ 31) (hk : k < 31) : shr (nI a) (nI k) &&& 1 = nI (if a.testBit k then 1 else 0) := by
  rw [n_shr ha (by omega)]
  have := fa_mask (a / 2 ^ k) 1
  rw [show nI (2 ^ 1 - 1) = 1 from rfl] at this
  rw [this, Nat.testBit_eq_decide_div_mod_eq]
  have h2 : a / 2 ^ k % 2 ^ 1 = 0 ∨ a / 2 ^ k % 2 ^ 1 = 1 := by omega
  rcases h2 with h2 | h2
  · rw [h2]
    have : ¬ a / 2 ^ k % 2 = 1 := by omega
    simp [this]
  · rw [h2]
    have : a / 2 ^ k % 2 = 1 := by omega
    simp [this]
/-! ===== memory ===== -/
def rp (s : Mem) (c : Nat) (f : Nat → Int32) : Mem := fun a => if a = c then f else s a
def up (f : Nat → Int32) (k : Nat) (v : Int32) : Nat → Int32 := fun b => if b = k then v else f b
theorem mw_rp (s : Mem) (c k : Nat) (v : Int32) : mw s c k v = rp s c (up (s c) k v) := rfl
theorem rp_rp (s : Mem) (c : Nat) (f g : Nat → Int32) : rp (rp s c f) c g = rp s c g := by
  funext a
  simp only [rp]
  split <;> rfl
theorem rp_at (s : Mem) (c : Nat) (f : Nat → Int32) : rp s c f c = f := if_pos rfl
theorem rp_o {s : Mem} {c a : Nat} {f : Nat → Int32} (h : a ≠ c) : rp s c f a = s a := if_neg h
theorem rp_id (s : Mem) (c : Nat) : rp s c (s c) = s := by
  funext a
  simp only [rp]
  split
  · rename_i h; rw [h]
  · rfl
theorem rp_sw {s : Mem} {c d : Nat} {f g : Nat → Int32} (h : c ≠ d) : rp (rp s c f) d g = rp (rp s d g) c f := by
  funext a
  simp only [rp]
  by_cases h1 : a = c
  · subst h1
    rw [if_neg h, if_pos rfl, if_pos rfl]
  · by_cases h2 : a = d
    · rw [if_pos h2, if_neg h1, if_pos h2]
    · rw [if_neg h2, if_neg h1, if_neg h1, if_neg h2]
theorem ld_in {s : Mem} {c k : Nat} (h1 : kd c = 1) (h2 : k < ln c) (h3 : ln c < 2 ^ 31) : ld s c (nI k) = some (s c k) := by
  unfold ld
  rw [if_pos ⟨h1, nI_in h2 h3⟩, nI_clamp (by omega)]
theorem sd_in {s : Mem} {c k : Nat} {v : Int32} (h1 : kd c = 1) (h2 : k < ln c) (h3 : ln c < 2 ^ 31) : sd s c (nI k) v = some (mw s c k v) := by
  unfold sd
  rw [if_pos ⟨h1, nI_in h2 h3⟩, nI_clamp (by omega)]
theorem b01 {p : Prop} {d : Decidable p} : ((if p then (1 : Int32) else 0) = 0) = ¬ p := by
  by_cases h : p
  · rw [if_pos h]; simp [h]
  · rw [if_neg h]; simp [h]
theorem C_within (x a b : Int32) (s : Mem) : F_C_within x a b s = some (if a ≤ x ∧ x ≤ b then 1 else 0, s) := by
  unfold F_C_within
  simp only [fa_lt, fa_le]
  split
  · rename_i h; rw [if_neg (by omega)]
  · split
    · rename_i h; rw [if_neg (by omega)]
    · rw [if_pos (by omega)]
theorem R_isIn (x a b : Int32) (s : Mem) : F_R_isIn x a b s = some (if a ≤ x ∧ x ≤ b then 1 else 0, s) := C_within x a b s
theorem C_max (x y : Int32) (s : Mem) : F_JM_max x y s = some (if x < y then y else x, s) := by
  unfold F_JM_max
  split <;> rfl
theorem C_min (x y : Int32) (s : Mem) : F_JM_min x y s = some (if y < x then y else x, s) := by
  unfold F_JM_min
  split <;> rfl
/-- within two numbers: as a number -/
theorem in_nI {x : Int32} {m : Nat} (hm : m < 2 ^ 31) (h : 0 ≤ x ∧ x ≤ nI m) : ∃ k, k ≤ m ∧ x = nI k := by
  obtain ⟨h1, h2⟩ := h
  rw [fa_le] at h1 h2
  rw [nI_toInt hm] at h2
  have h1 : 0 ≤ x.toInt := h1
  exact ⟨x.toInt.toNat, by omega, n_of h1⟩
