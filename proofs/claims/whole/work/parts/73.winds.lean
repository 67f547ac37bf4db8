def rgS2 (g : Nat) : Nat := (2 * g - 1) * (2 * g - 1)
theorem rgS2_eq {g : Nat} (h : 1 ≤ g) : rgS2 g + 4 * g = 4 * (g * g) + 1 := by
  obtain ⟨k, rfl⟩ : ∃ k, g = k + 1 := ⟨g - 1, by omega⟩
  unfold rgS2
  rw [show 2 * (k + 1) - 1 = 2 * k + 1 by omega]
  have e1 : (2 * k + 1) * (2 * k + 1) = 4 * (k * k) + 4 * k + 1 := by
    rw [Nat.mul_add, Nat.add_mul, Nat.mul_one, Nat.one_mul, Nat.mul_mul_mul_comm]
    omega
  have e2 : (k + 1) * (k + 1) = k * k + 2 * k + 1 := by
    rw [Nat.mul_add, Nat.add_mul, Nat.mul_one, Nat.one_mul]
    omega
  omega
theorem D_ring {g : Nat} (h : 1 ≤ g) (s : Mem) : F_D_ringStart (nI g) s = some (nI (rgS2 g), s) := by
  unfold F_D_ringStart
  rw [show (2 : Int32) = nI 2 from rfl, n_mul, show nI (2 * g) - 1 = nI (2 * g - 1) from n_sub (b := 1) (by omega), n_mul]
  rfl
theorem dm_q {a d q : Nat} (h1 : q * d ≤ a) (h2 : a < q * d + d) : a / d = q ∧ a % d = a - q * d := by
  have hd : 0 < d := by omega
  have e : a / d = q := Nat.div_eq_of_lt_le h1 (by rw [Nat.succ_mul]; exact h2)
  refine ⟨e, ?_⟩
  have := Nat.div_add_mod a d
  rw [e, Nat.mul_comm] at this
  omega
theorem spE {g a : Nat} (hg : 1 ≤ g) (hg2 : g ≤ 1000) (h1 : 1 ≤ a) (h2 : a ≤ 8 * g) {x1 : Int32} (s : Mem) : (if nI (a / (2 * g)) = 0 then (if x1 = 0 then some (nI g, s) else some (nI (a % (2 * g)) - nI g, s)) else if nI (a / (2 * g)) = 1 then (if x1 = 0 then some (nI g - nI (a % (2 * g)), s) else some (nI g, s)) else if nI (a / (2 * g)) = 2 then (if x1 = 0 then some (-nI g, s) else some (nI g - nI (a % (2 * g)), s)) else if nI (a / (2 * g)) = 3 then (if x1 = 0 then some (nI (a % (2 * g)) - nI g, s) else some (-nI g, s)) else (if x1 = 0 then some (nI g, s) else some (-nI g, s))) = some (if x1 = 0 then iI (px g a) else iI (py g a), s) := by
  have P := PV_of g a
  generalize px g a = x at *
  generalize py g a = y at *
  generalize pw g a = w at *
  generalize ps g a = sd at *
  generalize pl g a = lf at *
  unfold PV at P
  rcases P with ⟨p1, p2, p3, -⟩ | ⟨p1, p2, p3, p4, -⟩ | ⟨p1, p2, p3, p4, -⟩ | ⟨p1, p2, p3, -⟩
  · obtain ⟨q1, q2⟩ := dm_q (a := a) (d := 2 * g) (q := 0) (by omega) (by omega)
    rw [q1, q2, if_pos (show nI 0 = 0 from rfl), iI_nI, iI_nI, iI_sub, p2, p3, show ((a - 0 * (2 * g) : Nat) : Int) = a by omega]
    split <;> rfl
  · obtain ⟨q1, q2⟩ := dm_q (a := a) (d := 2 * g) (q := 1) (by omega) (by omega)
    rw [q1, q2, if_neg (show ¬ nI 1 = 0 by decide), if_pos (show nI 1 = 1 from rfl), iI_nI, iI_nI, iI_sub, p3, p4, show (g : Int) - ((a - 1 * (2 * g) : Nat) : Int) = 3 * g - a by omega]
    split <;> rfl
  · obtain ⟨q1, q2⟩ := dm_q (a := a) (d := 2 * g) (q := 2) (by omega) (by omega)
    rw [q1, q2, if_neg (show ¬ nI 2 = 0 by decide), if_neg (show ¬ nI 2 = 1 by decide), if_pos (show nI 2 = 2 from rfl), iI_nI, iI_nI, iI_sub, iI_neg, p3, p4, show (g : Int) - ((a - 2 * (2 * g) : Nat) : Int) = 5 * g - a by omega]
    split <;> rfl
  · by_cases h8 : a < 8 * g
    · obtain ⟨q1, q2⟩ := dm_q (a := a) (d := 2 * g) (q := 3) (by omega) (by omega)
      rw [q1, q2, if_neg (show ¬ nI 3 = 0 by decide), if_neg (show ¬ nI 3 = 1 by decide), if_neg (show ¬ nI 3 = 2 by decide), if_pos (show nI 3 = 3 from rfl), iI_nI, iI_nI, iI_sub, iI_neg, p2, p3, show ((a - 3 * (2 * g) : Nat) : Int) - (g : Int) = a - 7 * g by omega]
      split <;> rfl
    · obtain ⟨q1, q2⟩ := dm_q (a := a) (d := 2 * g) (q := 4) (by omega) (by omega)
      rw [q1, q2, if_neg (show ¬ nI 4 = 0 by decide), if_neg (show ¬ nI 4 = 1 by decide), if_neg (show ¬ nI 4 = 2 by decide), if_neg (show ¬ nI 4 = 3 by decide), iI_nI, iI_neg, p2, p3, show (a : Int) - 7 * g = g by omega]
      split <;> rfl
theorem spC {s : Mem} {n g a : Nat} {x1 : Int32} (hn : n ≤ 100000) (h : okA n g a) (hg : 1 ≤ g) : ∀ (q j m : Nat), 1 ≤ j → j + q = g → q < m → F_D_spiralPlace_6 m (nI n) x1 (nI j) s = some (if x1 = 0 then iI (px g a) else iI (py g a), s) := by
  obtain ⟨h1, h2, h3⟩ := h
  have h3b : 1 ≤ a := by omega
  have hg2 : g ≤ 158 := by
    apply Classical.byContradiction
    intro hc
    have : 159 * g ≤ g * g := Nat.mul_le_mul_right g (by omega)
    omega
  have hr := rgS2_eq hg
  intro q
  induction q with
  | zero =>
    intro j m hj1 hj hm
    obtain ⟨m, rfl⟩ : ∃ m', m = m' + 1 := ⟨m - 1, by omega⟩
    have : j = g := by omega
    subst this
    have hr1 := rgS2_eq (g := j + 1) (by omega)
    have e2 : (j + 1) * (j + 1) = j * j + 2 * j + 1 := by
      rw [Nat.mul_add, Nat.add_mul, Nat.mul_one, Nat.one_mul]
      omega
    have hjj : j * j ≤ 158 * 158 := Nat.mul_le_mul hg2 hg2
    have e3 : nI n - nI (rgS2 j) + 1 = nI a := by
      rw [n_sub (by omega), nI_1]
      congr 1
      omega
    have e4 : (2 : Int32) * nI j = nI (2 * j) := by rw [show (2 : Int32) = nI 2 from rfl, n_mul]
    have e5 : ¬ nI (2 * j) = 0 := nI_ne0 (by omega) (by omega)
    simp only [F_D_spiralPlace_6, if_neg (show ¬ (1000 : Int32) ≤ nI j from nI_ge (b := 1000) (by omega) (by decide)), nI_1, D_ring (show 1 ≤ j + 1 by omega), D_ring hj1, Option.bind_some, if_pos (nI_lt (show n < rgS2 (j + 1) by omega) (show rgS2 (j + 1) < 2 ^ 31 by omega)), e3, e4, if_neg e5, n_div (show a < 2 ^ 31 by omega) (show 0 < 2 * j by omega) (show 2 * j < 2 ^ 31 by omega), n_irm (show a < 2 ^ 31 by omega) (show 0 < 2 * j by omega) (show 2 * j < 2 ^ 31 by omega)]
    exact spE hg (by omega) h3b h2 s
  | succ q ih =>
    intro j m hj1 hj hm
    obtain ⟨m, rfl⟩ : ∃ m', m = m' + 1 := ⟨m - 1, by omega⟩
    have hle : rgS2 (j + 1) ≤ rgS2 g := Nat.mul_le_mul (by omega) (by omega)
    simp only [F_D_spiralPlace_6, if_neg (show ¬ (1000 : Int32) ≤ nI j from nI_ge (b := 1000) (by omega) (by decide)), nI_1, D_ring (show 1 ≤ j + 1 by omega), Option.bind_some, if_neg (nI_nlt (show rgS2 (j + 1) ≤ n by omega) (show n < 2 ^ 31 by omega))]
    exact ih (j + 1) m (by omega) (by omega) (by omega)
theorem px_b {k g a : Nat} (h : okA k g a) : -(g : Int) ≤ px g a ∧ px g a ≤ g ∧ -(g : Int) ≤ py g a ∧ py g a ≤ g := by
  have P := PV_of g a
  obtain ⟨h1, h2, h3⟩ := h
  generalize px g a = x at *
  generalize py g a = y at *
  generalize pw g a = w at *
  generalize ps g a = sd at *
  generalize pl g a = lf at *
  unfold PV at P
  omega
theorem R_walk {N X Y : Int32} {s : Mem} {K : Nat} (hK : K ≤ 100000) (hN : ∀ k, k < K → ¬ N ≤ nI k) (hXY : ∀ k g a, k < K → okA k g a → ¬ (iI (px g a) = X ∧ iI (py g a) = Y)) (hend : ∀ g a, okA K g a → N ≤ nI K ∨ (iI (px g a) = X ∧ iI (py g a) = Y)) : ∃ g a, okA K g a ∧ F_R_walksSpiral N X Y s = some (nI K, wS s (iI (px g a)) (iI (py g a))) := by
  obtain ⟨g, a, h1, h2⟩ := wk_go (s := s) hK hN hXY K 0 0 0 (1000000 - K) okA_0 (Nat.zero_add K)
  refine ⟨g, a, h1, ?_⟩
  have hg : gF = 1000000 - K + K := by rw [gF_eq]; omega
  unfold F_R_walksSpiral
  rw [hg]
  refine Eq.trans h2 ?_
  obtain ⟨m, hm⟩ : ∃ m', 1000000 - K = m' + 1 := ⟨1000000 - K - 1, by omega⟩
  rw [hm, F_R_walksSpiral_14]
  by_cases c : N ≤ nI K
  · rw [if_pos c]
  · rw [if_neg c]
    rcases hend g a h1 with c' | ⟨c1, c2⟩
    · exact absurd c' c
    · rw [if_pos (show wS s (iI (px g a)) (iI (py g a)) 123 53 = X from c1), if_pos (show wS s (iI (px g a)) (iI (py g a)) 123 54 = Y from c2)]
theorem g_spiral (x y : Int32) : Good Inv (F_C_spiral x y) (F_R_spiral x y) := by
  intro s h
  by_cases h1 : 0 ≤ x ∧ x ≤ 100000
  · by_cases h2 : 0 ≤ y ∧ y ≤ 1
    · obtain ⟨n, hn, rfl⟩ := in_nI (m := 100000) (by decide) h1
      obtain ⟨g, a, hok, hw⟩ := R_walk (N := nI n) (X := 100000000) (Y := 100000000) (s := mw s 123 0 0) (K := n) hn (fun k hk => nI_ge hk (by omega)) (fun k g a hk hok => by
        rintro ⟨q, -⟩
        have hb := px_b hok
        have hg := okA_b hok
        have : (100000000 : Int32) = iI 100000000 := by decide
        rw [this, iI_eq (by omega) (by omega) (by omega) (by omega)] at q
        omega) (fun g a _ => Or.inl (nI_le (Nat.le_refl n) (by omega)))
      refine ⟨if y = 0 then iI (px g a) else iI (py g a), s, wS (mw s 123 0 0) (iI (px g a)) (iI (py g a)), ?_, ?_, wS_I (Inv_t h)⟩
      · simp only [F_C_spiral, C_within, Option.bind_some, b01, h1, h2, and_self, not_true_eq_false, if_false, one0, F_D_spiralPlace]
        by_cases hg : g = 0
        · subst hg
          obtain ⟨k1, k2, k3⟩ := hok
          have : a = 0 := by omega
          subst this
          have : n = 0 := by omega
          subst this
          rw [if_neg (show ¬ (0 : Int32) < nI 0 by decide)]
          rw [show px 0 0 = 0 from rfl, show py 0 0 = 0 from rfl]
          split <;> rfl
        · have hn0 : 0 < n := by
            obtain ⟨k1, k2, k3⟩ := hok
            have : g ≤ g * g := Nat.le_mul_self g
            omega
          rw [if_pos (show (0 : Int32) < nI n from nI_lt (a := 0) hn0 (by omega))]
          have hc := spC (s := s) (x1 := y) hn hok (by omega) (g - 1) 1 gF (Nat.le_refl 1) (by omega) (by rw [gF_eq]; have := okA_b hok; omega)
          rw [show (1 : Int32) = nI 1 from rfl, hc]
          rfl
      · simp only [F_R_spiral, R_isIn, Option.bind_some, b01, h1, h2, and_self, not_true_eq_false, if_false, one0, hw]
        split <;> rfl
    · refine ⟨-1000, s, mw s 123 0 0, ?_, ?_, Inv_t h⟩
      · simp only [F_C_spiral, C_within, Option.bind_some, b01, h1, h2, and_self, not_true_eq_false, not_false_eq_true, if_false, if_true, one0]
      · simp only [F_R_spiral, R_isIn, Option.bind_some, b01, h1, h2, and_self, not_true_eq_false, not_false_eq_true, if_false, if_true, one0]
  · refine ⟨-1000, s, mw s 123 0 0, ?_, ?_, Inv_t h⟩
    · simp only [F_C_spiral, C_within, Option.bind_some, b01, h1, not_false_eq_true, if_true]
    · simp only [F_R_spiral, R_isIn, Option.bind_some, b01, h1, not_false_eq_true, if_true]
theorem pos_inj {g a g' a' : Nat} (h : a ≤ 8 * g ∧ (1 ≤ a ∨ g = 0)) (h' : a' ≤ 8 * g' ∧ (1 ≤ a' ∨ g' = 0)) (ex : px g a = px g' a') (ey : py g a = py g' a') : g = g' ∧ a = a' := by
  have P := PV_of g a
  have P' := PV_of g' a'
  rw [← ex, ← ey] at P'
  generalize px g a = x at *
  generalize py g a = y at *
  generalize pw g a = w at *
  generalize ps g a = sd at *
  generalize pl g a = lf at *
  generalize pw g' a' = w' at *
  generalize ps g' a' = sd' at *
  generalize pl g' a' = lf' at *
  unfold PV at P P'
  omega
/-- the place in its ring -/
theorem pos_ex (X Y : Int) (g : Nat) (hX : -(g : Int) ≤ X ∧ X ≤ g) (hY : -(g : Int) ≤ Y ∧ Y ≤ g) (hm : X = g ∨ X = -g ∨ Y = g ∨ Y = -g) (hg : 1 ≤ g) : ∃ a : Nat, 1 ≤ a ∧ a ≤ 8 * g ∧ px g a = X ∧ py g a = Y ∧ ((Y = -g ∧ (a : Int) = 7 * g + X) ∨ (Y ≠ -g ∧ X = g ∧ (a : Int) = g + Y) ∨ (Y ≠ -g ∧ X ≠ g ∧ Y = g ∧ (a : Int) = 3 * g - X) ∨ (Y ≠ -g ∧ X ≠ g ∧ Y ≠ g ∧ (a : Int) = 5 * g - Y)) := by
  have key : ∀ (a : Nat) (z : Int), (a : Int) = z → 1 ≤ a → a ≤ 8 * g → (∀ x y w sd lf, PV g a x y w sd lf → x = X ∧ y = Y) → px g a = X ∧ py g a = Y := fun a z _ _ _ hP => hP _ _ _ _ _ (PV_of g a)
  by_cases c1 : Y = -g
  · refine ⟨(7 * (g : Int) + X).toNat, by omega, by omega, ?_, ?_, Or.inl ⟨c1, by omega⟩⟩
    · exact (key _ (7 * g + X) (by omega) (by omega) (by omega) (fun x y w sd lf P => by unfold PV at P; omega)).1
    · exact (key _ (7 * g + X) (by omega) (by omega) (by omega) (fun x y w sd lf P => by unfold PV at P; omega)).2
  · by_cases c2 : X = g
    · refine ⟨((g : Int) + Y).toNat, by omega, by omega, ?_, ?_, Or.inr (Or.inl ⟨c1, c2, by omega⟩)⟩
      · exact (key _ (g + Y) (by omega) (by omega) (by omega) (fun x y w sd lf P => by unfold PV at P; omega)).1
      · exact (key _ (g + Y) (by omega) (by omega) (by omega) (fun x y w sd lf P => by unfold PV at P; omega)).2
    · by_cases c3 : Y = g
      · refine ⟨(3 * (g : Int) - X).toNat, by omega, by omega, ?_, ?_, Or.inr (Or.inr (Or.inl ⟨c1, c2, c3, by omega⟩))⟩
        · exact (key _ (3 * g - X) (by omega) (by omega) (by omega) (fun x y w sd lf P => by unfold PV at P; omega)).1
        · exact (key _ (3 * g - X) (by omega) (by omega) (by omega) (fun x y w sd lf P => by unfold PV at P; omega)).2
      · refine ⟨(5 * (g : Int) - Y).toNat, by omega, by omega, ?_, ?_, Or.inr (Or.inr (Or.inr ⟨c1, c2, c3, by omega⟩))⟩
        · exact (key _ (5 * g - Y) (by omega) (by omega) (by omega) (fun x y w sd lf P => by unfold PV at P; omega)).1
        · exact (key _ (5 * g - Y) (by omega) (by omega) (by omega) (fun x y w sd lf P => by unfold PV at P; omega)).2
theorem okA_u {k g a g' a' : Nat} (h : okA k g a) (h' : okA k g' a') : g = g' ∧ a = a' := by
  have key : ∀ {g a g' a' : Nat}, okA k g a → okA k g' a' → ¬ g < g' := by
    intro g a g' a' h h' hlt
    obtain ⟨h1, h2, h3⟩ := h
    obtain ⟨k1, k2, k3⟩ := h'
    have m1 : (g + 1) * g' ≤ g' * g' := Nat.mul_le_mul_right g' hlt
    have m2 : g * (g + 1) ≤ g * g' := Nat.mul_le_mul_left g hlt
    rw [Nat.add_mul, Nat.one_mul] at m1
    rw [Nat.mul_add, Nat.mul_one] at m2
    omega
  have e : g = g' := by
    have a1 := key h h'
    have a2 := key h' h
    omega
  subst e
  exact ⟨rfl, by have := h.1; have := h'.1; omega⟩
