/-! ===== spiral, winds ===== -/
def iI (z : Int) : Int32 := Int32.ofInt z
theorem iI_add (a b : Int) : iI a + iI b = iI (a + b) := (Int32.ofInt_add a b).symm
theorem iI_nI (n : Nat) : nI n = iI n := by
  apply Int32.toBitVec_inj.mp
  show BitVec.ofNat 32 n = BitVec.ofInt 32 n
  rw [BitVec.ofInt_natCast]
theorem iI_neg (a : Int) : -iI a = iI (-a) := by
  unfold iI
  rw [Int32.ofInt_neg]
theorem iI_sub (a b : Int) : iI a - iI b = iI (a - b) := by
  unfold iI
  rw [Int32.ofInt_sub]
theorem iI_mul (a b : Int) : iI a * iI b = iI (a * b) := (Int32.ofInt_mul a b).symm
theorem iI_toInt {a : Int} (h1 : -2147483648 ≤ a) (h2 : a < 2147483648) : (iI a).toInt = a := Int32.toInt_ofInt_of_le (by omega) (by omega)
theorem iI_eq {a b : Int} (h1 : -2147483648 ≤ a) (h2 : a < 2147483648) (h3 : -2147483648 ≤ b) (h4 : b < 2147483648) : iI a = iI b ↔ a = b := by
  rw [fa_eq, iI_toInt h1 h2, iI_toInt h3 h4]
theorem iI_of (x : Int32) : x = iI x.toInt := (Int32.ofInt_toInt x).symm
def px (g a : Nat) : Int := if a < 2 * g then g else if a < 4 * g then 3 * g - a else if a < 6 * g then -g else a - 7 * g
def py (g a : Nat) : Int := if a < 2 * g then a - g else if a < 4 * g then g else if a < 6 * g then 5 * g - a else -g
def pw (g a : Nat) : Nat := if a < 2 * g then 1 else if a < 4 * g then 2 else if a < 6 * g then 3 else 0
def ps (g a : Nat) : Nat := if a < 2 * g then 2 * g - 1 else if a < 6 * g then 2 * g else 2 * g + 1
def pl (g a : Nat) : Nat := if a < 2 * g then 2 * g - a else if a < 4 * g then 4 * g - a else if a < 6 * g then 6 * g - a else 8 * g + 1 - a
def okA (k g a : Nat) : Prop := k + 4 * g = 4 * (g * g) + a ∧ a ≤ 8 * g ∧ (1 ≤ a ∨ g = 0)
def wS (s : Mem) (x y : Int32) : Mem := mw (mw s 123 53 x) 123 54 y
theorem wS_mw (s : Mem) (x y x' y' : Int32) : mw (mw (wS s x y) 123 53 x') 123 54 y' = wS s x' y' := by
  funext c k
  simp only [wS, mw]
  by_cases h : c = 123
  · simp only [if_pos h, if_true]
    by_cases h1 : k = 54
    · simp only [if_pos h1]
    · simp only [if_neg h1]
      by_cases h2 : k = 53
      · simp only [if_pos h2]
      · simp only [if_neg h2]
  · simp only [if_neg h]
theorem wS_x (s : Mem) (x y : Int32) : wS s x y 123 53 = x := rfl
theorem wS_y (s : Mem) (x y : Int32) : wS s x y 123 54 = y := rfl
theorem wS_y' (s : Mem) (x y x' : Int32) : mw (wS s x y) 123 53 x' 123 54 = y := rfl
theorem wS_I {s : Mem} {x y : Int32} (h : Inv s) : Inv (wS s x y) := Inv_eq (prj_mw rfl) (Inv_eq (prj_mw rfl) h)
def wDx (w : Nat) : Int := if w = 0 then 1 else if w = 2 then -1 else 0
def wDy (w : Nat) : Int := if w = 1 then 1 else if w = 3 then -1 else 0
theorem c01 : ((0 : Int32) = 1) = False := by decide
theorem c02 : ((0 : Int32) = 2) = False := by decide
theorem c03 : ((0 : Int32) = 3) = False := by decide
theorem c12 : ((1 : Int32) = 2) = False := by decide
theorem c13 : ((1 : Int32) = 3) = False := by decide
theorem c20 : ((2 : Int32) = 0) = False := by decide
theorem c21 : ((2 : Int32) = 1) = False := by decide
theorem c23 : ((2 : Int32) = 3) = False := by decide
theorem c30 : ((3 : Int32) = 0) = False := by decide
theorem c31 : ((3 : Int32) = 1) = False := by decide
theorem c32 : ((3 : Int32) = 2) = False := by decide
/-- a step that is gone, whatever the way -/
theorem wk_step {n w : Nat} (hw : w < 4) {N X Y sd lf k : Int32} {s : Mem} {x y : Int} (hk : ¬ N ≤ k) (hxy : ¬ (iI x = X ∧ iI y = Y)) : F_R_walksSpiral_14 (n + 1) N X Y (nI w) sd lf k (wS s (iI x) (iI y)) = if lf - 1 ≤ 0 then (if irm (irm (nI w + 1) 4) 2 = 0 then F_R_walksSpiral_14 n N X Y (irm (nI w + 1) 4) (sd + 1) (sd + 1) (k + 1) (wS s (iI (x + wDx w)) (iI (y + wDy w))) else F_R_walksSpiral_14 n N X Y (irm (nI w + 1) 4) sd sd (k + 1) (wS s (iI (x + wDx w)) (iI (y + wDy w)))) else F_R_walksSpiral_14 n N X Y (nI w) sd (lf - 1) (k + 1) (wS s (iI (x + wDx w)) (iI (y + wDy w))) := by
  have e1 : iI x + 1 = iI (x + 1) := iI_add x 1
  have em : (-1 : Int32) = iI (-1) := by decide
  have e2 : iI x + (-1) = iI (x + -1) := by rw [em]; exact iI_add x (-1)
  have e3 : iI x + 0 = iI (x + 0) := iI_add x 0
  have e4 : iI y + 1 = iI (y + 1) := iI_add y 1
  have e5 : iI y + (-1) = iI (y + -1) := by rw [em]; exact iI_add y (-1)
  have e6 : iI y + 0 = iI (y + 0) := iI_add y 0
  rcases (show w = 0 ∨ w = 1 ∨ w = 2 ∨ w = 3 by omega) with rfl | rfl | rfl | rfl
  · rw [show nI 0 = 0 from rfl]
    simp only [F_R_walksSpiral_14, if_neg hk, wS_x, wS_y, wS_y', wS_mw, e1, e2, e3, e4, e5, e6, c01, c02, c03, if_true, if_false]
    by_cases hX : iI x = X
    · rw [if_pos hX, if_neg (fun q => hxy ⟨hX, q⟩)]
      rfl
    · rw [if_neg hX]
      rfl
  · rw [show nI 1 = 1 from rfl]
    simp only [F_R_walksSpiral_14, if_neg hk, wS_x, wS_y, wS_y', wS_mw, e1, e2, e3, e4, e5, e6, one0, c12, c13, if_true, if_false]
    by_cases hX : iI x = X
    · rw [if_pos hX, if_neg (fun q => hxy ⟨hX, q⟩)]
      rfl
    · rw [if_neg hX]
      rfl
  · rw [show nI 2 = 2 from rfl]
    simp only [F_R_walksSpiral_14, if_neg hk, wS_x, wS_y, wS_y', wS_mw, e1, e2, e3, e4, e5, e6, c20, c21, c23, if_true, if_false]
    by_cases hX : iI x = X
    · rw [if_pos hX, if_neg (fun q => hxy ⟨hX, q⟩)]
      rfl
    · rw [if_neg hX]
      rfl
  · rw [show nI 3 = 3 from rfl]
    simp only [F_R_walksSpiral_14, if_neg hk, wS_x, wS_y, wS_y', wS_mw, e1, e2, e3, e4, e5, e6, c30, c31, c32, if_true, if_false]
    by_cases hX : iI x = X
    · rw [if_pos hX, if_neg (fun q => hxy ⟨hX, q⟩)]
      rfl
    · rw [if_neg hX]
      rfl
def nxA (g a : Nat) : Nat × Nat := if a < 8 * g then (g, a + 1) else (g + 1, 1)
theorem okA_n {k g a : Nat} (h : okA k g a) : okA (k + 1) (nxA g a).1 (nxA g a).2 := by
  obtain ⟨h1, h2, h3⟩ := h
  unfold nxA
  split
  · exact ⟨show k + 1 + 4 * g = 4 * (g * g) + (a + 1) by omega, show a + 1 ≤ 8 * g by omega, Or.inl (show 1 ≤ a + 1 by omega)⟩
  · refine ⟨?_, show 1 ≤ 8 * (g + 1) by omega, Or.inl (Nat.le_refl 1)⟩
    show k + 1 + 4 * (g + 1) = 4 * ((g + 1) * (g + 1)) + 1
    have : (g + 1) * (g + 1) = g * g + 2 * g + 1 := by
      rw [Nat.mul_add, Nat.add_mul, Nat.mul_one, Nat.one_mul]
      omega
    omega
def PV (g a : Nat) (x y : Int) (w sd lf : Nat) : Prop := (a < 2 * g ∧ x = g ∧ y = a - g ∧ w = 1 ∧ sd = 2 * g - 1 ∧ lf = 2 * g - a) ∨ (2 * g ≤ a ∧ a < 4 * g ∧ x = 3 * g - a ∧ y = g ∧ w = 2 ∧ sd = 2 * g ∧ lf = 4 * g - a) ∨ (4 * g ≤ a ∧ a < 6 * g ∧ x = -g ∧ y = 5 * g - a ∧ w = 3 ∧ sd = 2 * g ∧ lf = 6 * g - a) ∨ (6 * g ≤ a ∧ x = a - 7 * g ∧ y = -g ∧ w = 0 ∧ sd = 2 * g + 1 ∧ lf = 8 * g + 1 - a)
theorem PV_of (g a : Nat) : PV g a (px g a) (py g a) (pw g a) (ps g a) (pl g a) := by
  by_cases h1 : a < 2 * g
  · exact Or.inl ⟨h1, if_pos h1, if_pos h1, if_pos h1, if_pos h1, if_pos h1⟩
  · by_cases h2 : a < 4 * g
    · refine Or.inr (Or.inl ⟨by omega, h2, ?_, ?_, ?_, ?_, ?_⟩)
      · exact (if_neg h1).trans (if_pos h2)
      · exact (if_neg h1).trans (if_pos h2)
      · exact (if_neg h1).trans (if_pos h2)
      · exact (if_neg h1).trans (if_pos (by omega))
      · exact (if_neg h1).trans (if_pos h2)
    · by_cases h3 : a < 6 * g
      · refine Or.inr (Or.inr (Or.inl ⟨by omega, h3, ?_, ?_, ?_, ?_, ?_⟩))
        · exact (if_neg h1).trans ((if_neg h2).trans (if_pos h3))
        · exact (if_neg h1).trans ((if_neg h2).trans (if_pos h3))
        · exact (if_neg h1).trans ((if_neg h2).trans (if_pos h3))
        · exact (if_neg h1).trans (if_pos h3)
        · exact (if_neg h1).trans ((if_neg h2).trans (if_pos h3))
      · refine Or.inr (Or.inr (Or.inr ⟨by omega, ?_, ?_, ?_, ?_, ?_⟩))
        · exact (if_neg h1).trans ((if_neg h2).trans (if_neg h3))
        · exact (if_neg h1).trans ((if_neg h2).trans (if_neg h3))
        · exact (if_neg h1).trans ((if_neg h2).trans (if_neg h3))
        · exact (if_neg h1).trans (if_neg h3)
        · exact (if_neg h1).trans ((if_neg h2).trans (if_neg h3))
theorem wD_of {w : Nat} (h : w < 4) : (w = 0 ∧ wDx w = 1 ∧ wDy w = 0) ∨ (w = 1 ∧ wDx w = 0 ∧ wDy w = 1) ∨ (w = 2 ∧ wDx w = -1 ∧ wDy w = 0) ∨ (w = 3 ∧ wDx w = 0 ∧ wDy w = -1) := by
  rcases (show w = 0 ∨ w = 1 ∨ w = 2 ∨ w = 3 by omega) with rfl | rfl | rfl | rfl <;> decide
theorem okA_b {k g a : Nat} (h : okA k g a) : g ≤ k + 1 := by
  obtain ⟨h1, h2, h3⟩ := h
  by_cases hg : g ≤ 1
  · omega
  · have : 2 * g ≤ g * g := Nat.mul_le_mul_right g (by omega)
    omega
theorem wk_next {n g a g' a' : Nat} (hn : (a < 8 * g ∧ g' = g ∧ a' = a + 1) ∨ (a = 8 * g ∧ g' = g + 1 ∧ a' = 1)) (h1 : 1 ≤ a ∨ g = 0) (hg : g ≤ 200000) {N X Y k : Int32} {s : Mem} (hk : ¬ N ≤ k) (hxy : ¬ (iI (px g a) = X ∧ iI (py g a) = Y)) : F_R_walksSpiral_14 (n + 1) N X Y (nI (pw g a)) (nI (ps g a)) (nI (pl g a)) k (wS s (iI (px g a)) (iI (py g a))) = F_R_walksSpiral_14 n N X Y (nI (pw g' a')) (nI (ps g' a')) (nI (pl g' a')) (k + 1) (wS s (iI (px g' a')) (iI (py g' a'))) := by
  have P1 := PV_of g a
  have P2 := PV_of g' a'
  generalize px g a = x at *
  generalize py g a = y at *
  generalize pw g a = w at *
  generalize ps g a = sd at *
  generalize pl g a = lf at *
  generalize px g' a' = x' at *
  generalize py g' a' = y' at *
  generalize pw g' a' = w' at *
  generalize ps g' a' = sd' at *
  generalize pl g' a' = lf' at *
  unfold PV at P1 P2
  have hw : w < 4 := by omega
  have hl1 : 1 ≤ lf := by omega
  have hl2 : lf ≤ 8 * g + 1 := by omega
  have e1 : nI lf - 1 = nI (lf - 1) := n_sub (b := 1) hl1
  have e2 : (nI (lf - 1) ≤ 0) ↔ lf - 1 ≤ 0 := nI_leI (b := 0) (by omega) (by decide)
  have e3 : irm (nI w + 1) 4 = nI ((w + 1) % 4) := by
    rw [nI_1]
    exact n_irmL (by omega) (by decide) (by decide) rfl
  have e4 : irm (nI ((w + 1) % 4)) 2 = nI ((w + 1) % 4 % 2) := n_irmL (by omega) (by decide) (by decide) rfl
  have e5 : (nI ((w + 1) % 4 % 2) = 0) ↔ (w + 1) % 4 % 2 = 0 := nI_eq (b := 0) (by omega) (by decide)
  have D := wD_of hw
  have hx : x + wDx w = x' := by
    generalize wDx w = dx at *
    generalize wDy w = dy at *
    omega
  have hy : y + wDy w = y' := by
    generalize wDx w = dx at *
    generalize wDy w = dy at *
    omega
  rw [wk_step hw hk hxy, e1, e3, e4, nI_1, hx, hy]
  clear D hx hy
  by_cases c1 : lf - 1 ≤ 0
  · rw [if_pos (e2.mpr c1)]
    by_cases c2 : (w + 1) % 4 % 2 = 0
    · rw [if_pos (e5.mpr c2)]
      have f1 : (w + 1) % 4 = w' := by omega
      have f2 : sd + 1 = sd' := by omega
      have f3 : sd + 1 = lf' := by omega
      rw [f1, ← f3]
      rw [← f2]
    · rw [if_neg (fun q => c2 (e5.mp q))]
      have f1 : (w + 1) % 4 = w' := by omega
      have f2 : sd = sd' := by omega
      have f3 : sd = lf' := by omega
      rw [f1, ← f3]
      rw [← f2]
  · rw [if_neg (fun q => c1 (e2.mp q))]
    have f1 : w = w' := by omega
    have f2 : sd = sd' := by omega
    have f3 : lf - 1 = lf' := by omega
    rw [f1, f2, f3]
/-- the walk, q steps on, if it is not stopped -/
theorem wk_go {N X Y : Int32} {s : Mem} {K : Nat} (hK : K ≤ 100000) (hN : ∀ k, k < K → ¬ N ≤ nI k) (hXY : ∀ k g a, k < K → okA k g a → ¬ (iI (px g a) = X ∧ iI (py g a) = Y)) : ∀ (q k g a m : Nat), okA k g a → k + q = K → ∃ g' a', okA K g' a' ∧ F_R_walksSpiral_14 (m + q) N X Y (nI (pw g a)) (nI (ps g a)) (nI (pl g a)) (nI k) (wS s (iI (px g a)) (iI (py g a))) = F_R_walksSpiral_14 m N X Y (nI (pw g' a')) (nI (ps g' a')) (nI (pl g' a')) (nI K) (wS s (iI (px g' a')) (iI (py g' a'))) := by
  intro q
  induction q with
  | zero =>
    intro k g a m h hk
    have : k = K := by omega
    subst this
    exact ⟨g, a, h, rfl⟩
  | succ q ih =>
    intro k g a m h hk
    have hb := okA_b h
    obtain ⟨g', a', h1, h2⟩ := ih (k + 1) (nxA g a).1 (nxA g a).2 m (okA_n h) (by omega)
    refine ⟨g', a', h1, ?_⟩
    have hn : (a < 8 * g ∧ (nxA g a).1 = g ∧ (nxA g a).2 = a + 1) ∨ (a = 8 * g ∧ (nxA g a).1 = g + 1 ∧ (nxA g a).2 = 1) := by
      by_cases c : a < 8 * g
      · have e : nxA g a = (g, a + 1) := if_pos c
        rw [e]
        exact Or.inl ⟨c, rfl, rfl⟩
      · have e : nxA g a = (g + 1, 1) := if_neg c
        rw [e]
        exact Or.inr ⟨by have := h.2.1; omega, rfl, rfl⟩
    rw [show m + (q + 1) = (m + q) + 1 by omega, wk_next hn h.2.2 (by omega) (hN k (by omega)) (hXY k g a (by omega) h), nI_1]
    exact h2
theorem okA_0 : okA 0 0 0 := ⟨rfl, Nat.le_refl _, Or.inr rfl⟩
theorem okA_ex : ∀ k, ∃ g a, okA k g a
  | 0 => ⟨0, 0, okA_0⟩
  | k + 1 => by
    obtain ⟨g, a, h⟩ := okA_ex k
    exact ⟨_, _, okA_n h⟩
