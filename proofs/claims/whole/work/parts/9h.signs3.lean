theorem pct : ∀ X, X < 16 → (X < 15 → pc 16 X ≤ 3) ∧ (1 ≤ X → 1 ≤ pc 16 X) ∧ (pc 16 X = 1 → X = 2 ^ 0 ∨ X = 2 ^ 1 ∨ X = 2 ^ 2 ∨ X = 2 ^ 3) := by decide +kernel
theorem pc15 : pc 16 15 = 4 := by decide +kernel
theorem pc2k : ∀ k, k < 4 → pc 16 (2 ^ k) = 1 := by decide +kernel
def kyS (X : Nat) : Nat := 16 * pc 16 X + X
def Bst (T : Nat → Bool) (lo hi b : Nat) : Prop := (b = 15 ∨ (T b = true ∧ lo ≤ b ∧ b < hi)) ∧ ∀ y, lo ≤ y → y < hi → T y = true → kyS b ≤ kyS y
theorem Bst_u {T : Nat → Bool} {b c : Nat} (h : Bst T 1 15 b) (k : Bst T 1 15 c) : b = c := by
  have one : ∀ x y, Bst T 1 15 x → Bst T 1 15 y → x = 15 → y = 15 := fun x y hx hy e => by
    subst e
    rcases hy.1 with q | ⟨q1, q2, q3⟩
    · exact q
    · have := hx.2 y q2 q3 q1
      have p := (pct y (by omega)).1 q3
      unfold kyS at this
      rw [pc15] at this
      omega
  rcases h.1 with q | ⟨q1, q2, q3⟩
  · rw [q]; exact (one b c h k q).symm
  · rcases k.1 with w | ⟨w1, w2, w3⟩
    · rw [w]; exact one c b k h w
    · have a1 := h.2 c w2 w3 w1
      have a2 := k.2 b q2 q3 q1
      unfold kyS at a1 a2
      omega
theorem bind_s {A : Option (Int32 × Mem)} {q : Int32 × Mem} {f : Int32 × Mem → Option (Int32 × Mem)} (h : A = some q) : A.bind f = f q := by
  subst h
  rfl
theorem ts_step {m : Nat} {x1 x2 x3 u v : Int32} {s : Mem} (g : ¬ x1 ≤ x3) (h1 : F_JI_bitCount x3 s = some (u, s)) (h2 : F_JI_bitCount x2 s = some (v, s)) : F_D_topSet_6 (m + 1) x1 x2 x3 s = if v ≤ u then F_D_topSet_6 m x1 x2 (x3 + 1) s else (F_D_isAhead x3 s).bind fun z3 => if z3.1 = 0 then F_D_topSet_6 m x1 x2 (x3 + 1) z3.2 else F_D_topSet_6 m x1 x3 (x3 + 1) z3.2 := by
  have e : F_D_topSet_6 (m + 1) x1 x2 x3 s = (if x1 ≤ x3 then some (x2, s) else (F_JI_bitCount x3 s).bind fun z1 => (F_JI_bitCount x2 z1.2).bind fun z2 => if z2.1 ≤ z1.1 then F_D_topSet_6 m x1 x2 (x3 + 1) z2.2 else (F_D_isAhead x3 z2.2).bind fun z3 => if z3.1 = 0 then F_D_topSet_6 m x1 x2 (x3 + 1) z3.2 else F_D_topSet_6 m x1 x3 (x3 + 1) z3.2) := by rw [F_D_topSet_6]
  have k : F_JI_bitCount x2 ((u, s) : Int32 × Mem).2 = some (v, s) := h2
  exact e.trans ((if_neg g).trans ((bind_s h1).trans (bind_s k)))
theorem tsC {T : Nat → Bool} {s : Mem} (hT : ∀ X, X < 16 → F_D_isAhead (nI X) s = some (if T X = true then 1 else 0, s)) : ∀ (q x m b : Nat), x + q = 15 → 1 ≤ x → q < m → Bst T 1 x b → ∃ r, Bst T 1 15 r ∧ r ≤ 15 ∧ F_D_topSet_6 m 15 (nI b) (nI x) s = some (nI r, s) := by
  intro q
  induction q with
  | zero =>
    intro x m b hx h1 hm hB
    obtain ⟨m, rfl⟩ : ∃ m', m = m' + 1 := ⟨m - 1, by omega⟩
    have e : x = 15 := by omega
    have g : (15 : Int32) ≤ nI x := nI_le (a := 15) (by omega) (by omega)
    refine ⟨b, by rw [← e]; exact hB, by rcases hB.1 with q | q <;> omega, ?_⟩
    simp only [F_D_topSet_6, if_pos g]
  | succ q ih =>
    intro x m b hx h1 hm hB
    obtain ⟨m, rfl⟩ : ∃ m', m = m' + 1 := ⟨m - 1, by omega⟩
    have g : ¬ (15 : Int32) ≤ nI x := nI_ge (b := 15) (by omega) (by omega)
    have hb : b ≤ 15 := by rcases hB.1 with q | q <;> omega
    have px := C_bitCount (a := x) (by omega) s
    have pb := C_bitCount (a := b) (by omega) s
    have lx : pc 16 x ≤ 16 := fb_ct_le _ 16
    have lb : pc 16 b ≤ 16 := fb_ct_le _ 16
    have c0 : (nI (pc 16 b) ≤ nI (pc 16 x)) ↔ pc 16 b ≤ pc 16 x := nI_leI (by omega) (by omega)
    have p3 := (pct x (by omega)).1 (by omega)
    have wid : ∀ b', (b' = 15 ∨ (T b' = true ∧ 1 ≤ b' ∧ b' < x + 1)) → (∀ y, 1 ≤ y → y < x → T y = true → kyS b' ≤ kyS y) → (T x = true → kyS b' ≤ kyS x) → Bst T 1 (x + 1) b' := fun b' h1 h2 h3 => ⟨h1, fun y y1 y2 y3 => by
      by_cases e : y = x
      · subst e; exact h3 y3
      · exact h2 y y1 (by omega) y3⟩
    have keep1 : b = 15 ∨ (T b = true ∧ 1 ≤ b ∧ b < x + 1) := by
      rcases hB.1 with q | ⟨q1, q2, q3⟩
      · exact Or.inl q
      · exact Or.inr ⟨q1, q2, by omega⟩
    by_cases c : pc 16 b ≤ pc 16 x
    · obtain ⟨r, r1, r2, r3⟩ := ih (x + 1) m b (by omega) (by omega) (by omega) (wid b keep1 hB.2 (fun _ => by
        rcases hB.1 with q | ⟨q1, q2, q3⟩
        · exfalso
          rw [q, pc15] at c
          exact absurd (Nat.le_trans c p3) (by decide)
        · unfold kyS
          omega))
      refine ⟨r, r1, r2, ?_⟩
      rw [← r3]
      rw [ts_step g px pb, if_pos (c0.mpr c), nI_1]
    · by_cases t : T x = true
      · have hlt : kyS x < kyS b := by unfold kyS; omega
        obtain ⟨r, r1, r2, r3⟩ := ih (x + 1) m x (by omega) (by omega) (by omega) (wid x (Or.inr ⟨t, h1, by omega⟩) (fun y y1 y2 y3 => Nat.le_trans (Nat.le_of_lt hlt) (hB.2 y y1 y2 y3)) (fun _ => Nat.le_refl _))
        refine ⟨r, r1, r2, ?_⟩
        rw [← r3]
        rw [ts_step g px pb, if_neg (fun q => c (c0.mp q)), hT x (by omega), if_pos t, nI_1]
        rfl
      · obtain ⟨r, r1, r2, r3⟩ := ih (x + 1) m b (by omega) (by omega) (by omega) (wid b keep1 hB.2 (fun q => absurd q t))
        refine ⟨r, r1, r2, ?_⟩
        rw [← r3]
        rw [ts_step g px pb, if_neg (fun q => c (c0.mp q)), hT x (by omega), if_neg t, nI_1]
        rfl
theorem tsM {T : Nat → Bool} {s0 : Mem} {x1 : Int32} (hT : ∀ X, X < 16 → ∀ t, eqV t s0 → ∃ t', eqV t' s0 ∧ F_R_isTop (nI X) t = some (if T X = true then 1 else 0, t')) : ∀ (x m b : Nat) (t : Mem), x ≤ 14 → x < m → Bst T (x + 1) 15 b → eqV t s0 → ∃ (r : Nat) (t' : Mem), Bst T 1 15 r ∧ r ≤ 15 ∧ eqV t' s0 ∧ F_R_signs_53 m x1 (nI b) (nI x) t = if x1 = 1 then some (nI r, t') else F_R_signs_77 gF (nI r) 0 t' := by
  intro x
  induction x with
  | zero =>
    intro m b t hx hm hB ht
    obtain ⟨m, rfl⟩ : ∃ m', m = m' + 1 := ⟨m - 1, by omega⟩
    refine ⟨b, t, hB, by rcases hB.1 with q | q <;> omega, ht, ?_⟩
    simp only [F_R_signs_53, if_pos (show nI 0 ≤ 0 from by decide)]
  | succ x ih =>
    intro m b t hx hm hB ht
    obtain ⟨m, rfl⟩ : ∃ m', m = m' + 1 := ⟨m - 1, by omega⟩
    have g : ¬ nI (x + 1) ≤ 0 := nI_ge (b := x + 1) (a := 0) (by omega) (by omega)
    have hb : b ≤ 15 := by rcases hB.1 with q | q <;> omega
    have hbx : x + 1 < b := by rcases hB.1 with q | q <;> omega
    have e1 : nI (x + 1) + (-1) = nI x := by rw [m1_add]; exact nI_pred x
    have lx : pc 16 (x + 1) ≤ 16 := fb_ct_le _ 16
    have lb : pc 16 b ≤ 16 := fb_ct_le _ 16
    have c0 : (nI (pc 16 b) < nI (pc 16 (x + 1))) ↔ pc 16 b < pc 16 (x + 1) := nI_ltI (by omega) (by omega)
    obtain ⟨t1, o1, z1⟩ := hT (x + 1) (by omega) t ht
    have px := R_onesOf (a := x + 1) (by omega) t1
    have pb := R_onesOf (a := b) (by omega) t1
    have wid : ∀ b', (b' = 15 ∨ (T b' = true ∧ x + 1 ≤ b' ∧ b' < 15)) → (∀ y, x + 2 ≤ y → y < 15 → T y = true → kyS b' ≤ kyS y) → (T (x + 1) = true → kyS b' ≤ kyS (x + 1)) → Bst T (x + 1) 15 b' := fun b' h1 h2 h3 => ⟨h1, fun y y1 y2 y3 => by
      by_cases e : y = x + 1
      · subst e; exact h3 y3
      · exact h2 y (by omega) y2 y3⟩
    have keep1 : b = 15 ∨ (T b = true ∧ x + 1 ≤ b ∧ b < 15) := by
      rcases hB.1 with q | ⟨q1, q2, q3⟩
      · exact Or.inl q
      · exact Or.inr ⟨q1, by omega, q3⟩
    by_cases tt : T (x + 1) = true
    · rw [if_pos tt] at z1
      by_cases c : pc 16 b < pc 16 (x + 1)
      · obtain ⟨r, t', r1, r2, r3, r4⟩ := ih m b t1 (by omega) (by omega) (wid b keep1 (fun y y1 y2 y3 => hB.2 y (by omega) y2 y3) (fun _ => by unfold kyS; omega)) o1
        refine ⟨r, t', r1, r2, r3, ?_⟩
        rw [← r4]
        simp only [F_R_signs_53, if_neg g, z1, Option.bind_some, one0, if_false, px, pb, if_pos (c0.mpr c), e1]
      · have hlt : kyS (x + 1) ≤ kyS b := by unfold kyS; omega
        obtain ⟨r, t', r1, r2, r3, r4⟩ := ih m (x + 1) t1 (by omega) (by omega) (wid (x + 1) (Or.inr ⟨tt, by omega, by omega⟩) (fun y y1 y2 y3 => Nat.le_trans hlt (hB.2 y (by omega) y2 y3)) (fun _ => Nat.le_refl _)) o1
        refine ⟨r, t', r1, r2, r3, ?_⟩
        rw [← r4]
        simp only [F_R_signs_53, if_neg g, z1, Option.bind_some, one0, if_false, px, pb, if_neg (fun q => c (c0.mp q)), e1]
    · rw [if_neg tt] at z1
      obtain ⟨r, t', r1, r2, r3, r4⟩ := ih m b t1 (by omega) (by omega) (wid b keep1 (fun y y1 y2 y3 => hB.2 y (by omega) y2 y3) (fun q => absurd q tt)) o1
      refine ⟨r, t', r1, r2, r3, ?_⟩
      rw [← r4]
      simp only [F_R_signs_53, if_neg g, z1, Option.bind_some, if_true, e1]
theorem wnP {T : Nat → Bool} {s t : Mem} {b : Nat} (hT : ∀ X, X < 16 → F_D_isAhead (nI X) s = some (if T X = true then 1 else 0, s)) (hB : Bst T 1 15 b) (hb : b ≤ 15) : ∀ (q k m m' : Nat), k + q = 4 → q < m → q < m' → (∀ j, j < k → ¬ T (2 ^ j) = true) → ∃ v : Int32, F_D_winner_2 m (nI k) s = some (v, s) ∧ F_R_signs_77 m' (nI b) (nI k) t = some (v, t) := by
  intro q
  induction q with
  | zero =>
    intro k m m' hk hm hm' hno
    obtain ⟨m, rfl⟩ : ∃ m', m = m' + 1 := ⟨m - 1, by omega⟩
    obtain ⟨m', rfl⟩ : ∃ k, m' = k + 1 := ⟨m' - 1, by omega⟩
    have g : (4 : Int32) ≤ nI k := nI_le (a := 4) (by omega) (by omega)
    refine ⟨-1, ?_, ?_⟩
    · simp only [F_D_winner_2, if_pos g]
    · simp only [F_R_signs_77, if_pos g]
  | succ q ih =>
    intro k m m' hk hm hm' hno
    obtain ⟨m, rfl⟩ : ∃ m', m = m' + 1 := ⟨m - 1, by omega⟩
    obtain ⟨m', rfl⟩ : ∃ k, m' = k + 1 := ⟨m' - 1, by omega⟩
    have g : ¬ (4 : Int32) ≤ nI k := nI_ge (b := 4) (by omega) (by omega)
    have h2 : 2 ^ k ≤ 8 := Nat.pow_le_pow_right (n := 2) (by decide) (show k ≤ 3 by omega)
    have h21 : 1 ≤ 2 ^ k := Nat.one_le_two_pow
    have es : shl 1 (nI k) = nI (2 ^ k) := n_shl1 (by omega)
    have eb : (nI b = nI (2 ^ k)) ↔ b = 2 ^ k := nI_eq (by omega) (by omega)
    by_cases tt : T (2 ^ k) = true
    · have hbk : b = 2 ^ k := by
        have h3 := hB.2 (2 ^ k) h21 (by omega) tt
        unfold kyS at h3
        rw [pc2k k (by omega)] at h3
        rcases hB.1 with q | ⟨q1, q2, q3⟩
        · subst q; rw [pc15] at h3; omega
        · have h4 := (pct b (by omega)).2.1 q2
          have h5 : pc 16 b = 1 := by omega
          have h6 := (pct b (by omega)).2.2 h5
          have h7 : b ≤ 2 ^ k := by omega
          have key : ∀ j, b = 2 ^ j → j < 4 → b = 2 ^ k := fun j hj _ => by
            rcases Nat.lt_or_ge j k with w | w
            · exact absurd (by rw [← hj]; exact q1) (hno j w)
            · have : 2 ^ k ≤ 2 ^ j := Nat.pow_le_pow_right (n := 2) (by decide) w
              omega
          rcases h6 with h6 | h6 | h6 | h6
          · exact key 0 h6 (by decide)
          · exact key 1 h6 (by decide)
          · exact key 2 h6 (by decide)
          · exact key 3 h6 (by decide)
      refine ⟨nI k, ?_, ?_⟩
      · simp only [F_D_winner_2, if_neg g, es, hT (2 ^ k) (by omega), if_pos tt, Option.bind_some, one0, if_false]
      · simp only [F_R_signs_77, if_neg g, es, if_pos (eb.mpr hbk)]
    · have hne : ¬ b = 2 ^ k := fun q => by
        rcases hB.1 with w | ⟨w1, -, -⟩
        · rw [w] at q
          rcases (show k = 0 ∨ k = 1 ∨ k = 2 ∨ k = 3 by omega) with rfl | rfl | rfl | rfl <;> revert q <;> decide
        · rw [q] at w1; exact tt w1
      obtain ⟨v, v1, v2⟩ := ih (k + 1) m m' (by omega) (by omega) (by omega) (fun j hj => by
        by_cases e : j = k
        · subst e; exact tt
        · exact hno j (by omega))
      refine ⟨v, ?_, ?_⟩
      · rw [← v1]
        simp only [F_D_winner_2, if_neg g, es, hT (2 ^ k) (by omega), if_neg tt, Option.bind_some, if_true, nI_1]
      · rw [← v2]
        simp only [F_R_signs_77, if_neg g, es, if_neg (fun q => hne (eb.mp q)), nI_1]
/-! no signers -/
theorem sg15 {i : Nat} {k' : Int32 → Int32 → Mem → Option (Int32 × Mem)} {t : Mem} (e : t 123 46 = nI 0) : ∀ (q j m : Nat), j + q = 4 → q < m → F_R_signs_15 k' m 0 (nI i) (nI j) t = k' 0 (nI (i + 1)) t := by
  intro q
  induction q with
  | zero =>
    intro j m hj hm
    obtain ⟨m, rfl⟩ : ∃ m', m = m' + 1 := ⟨m - 1, by omega⟩
    simp only [F_R_signs_15, if_pos (show (4 : Int32) ≤ nI j from nI_le (a := 4) (by omega) (by omega)), nI_1]
  | succ q ih =>
    intro j m hj hm
    obtain ⟨m, rfl⟩ : ∃ m', m = m' + 1 := ⟨m - 1, by omega⟩
    rw [← ih (j + 1) m (by omega) (by omega)]
    by_cases c : nI i = nI j
    · simp only [F_R_signs_15, if_neg (show ¬ (4 : Int32) ≤ nI j from nI_ge (b := 4) (by omega) (by omega)), if_pos c, nI_1]
    · simp only [F_R_signs_15, if_neg (show ¬ (4 : Int32) ≤ nI j from nI_ge (b := 4) (by omega) (by omega)), if_neg c, e, if_pos (show nI 0 ≤ 0 from by decide), nI_1]
theorem sg10 {t : Mem} (e : t 123 46 = nI 0) : ∀ (q i m : Nat), i + q = 4 → q < m → F_R_signs_10 m 0 (nI i) t = some (0, t) := by
  intro q
  induction q with
  | zero =>
    intro i m hi hm
    obtain ⟨m, rfl⟩ : ∃ m', m = m' + 1 := ⟨m - 1, by omega⟩
    simp only [F_R_signs_10, if_pos (show (4 : Int32) ≤ nI i from nI_le (a := 4) (by omega) (by omega))]
  | succ q ih =>
    intro i m hi hm
    obtain ⟨m, rfl⟩ : ∃ m', m = m' + 1 := ⟨m - 1, by omega⟩
    have h := sg15 (i := i) (k' := F_R_signs_10 m) e 4 0 gF rfl (by rw [gF_eq]; omega)
    have h : F_R_signs_15 (F_R_signs_10 m) gF 0 (nI i) 0 t = F_R_signs_10 m 0 (nI (i + 1)) t := h
    simp only [F_R_signs_10, if_neg (show ¬ (4 : Int32) ≤ nI i from nI_ge (b := 4) (by omega) (by omega)), h]
    exact ih (i + 1) m (by omega) (by omega)
theorem p_signs (x : Int32) : Pair I2 I2 (F_C_signs x) (F_R_signs x) := by
  intro a b h
  have fr0 : ∀ c, c < 123 → (mw b 123 0 0) c = b c := fun c hc => mw_o (by omega)
  have h0 : I2 a (mw b 123 0 0) := I2_0 h
  obtain ⟨b0, hb0⟩ : ∃ b0, b0 = mw b 123 0 0 := ⟨_, rfl⟩
  rw [← hb0] at h0 fr0
  obtain ⟨n, hS⟩ : ∃ n, SR n a b0 := by
    obtain ⟨⟨-, -, -, -, -, -, -, -, -, ⟨n, n1, n2, n3, n4, n5⟩, -⟩, -⟩ := id h0
    exact ⟨n, n1, n2, n3, fun k hk => ⟨n4 k (by omega), n5 k hk⟩⟩
  have fin : ∀ t, eqV t b0 → I2 a t ∧ ∀ c, c < 123 → t c = b c := fun t ht => by
    refine ⟨?_, fun c hc => by rw [ht c (by omega)]; exact fr0 c hc⟩
    have e : prj t = prj b0 := by
      funext c
      by_cases q : c = 149
      · subst q; rfl
      · exact prj_cell (ht c q)
    show J2 (prj a) (prj t)
    rw [e]
    exact h0
  obtain ⟨T, hT⟩ := ia hS
  have B0 : Bst T 1 1 15 := ⟨Or.inl rfl, fun y y1 y2 => absurd y1 (by omega)⟩
  have B1 : Bst T 15 15 15 := ⟨Or.inl rfl, fun y y1 y2 => absurd y1 (by omega)⟩
  by_cases c2 : x = 2
  · subst c2
    have hn7 := hS.1
    rcases Nat.eq_zero_or_pos n with e | e
    · subst e
      have e1 : a 26 1 = 0 := hS.2.1
      obtain ⟨f1, f2⟩ := fin b0 (fun _ _ => rfl)
      have hm : F_R_signs_10 gF 0 0 b0 = some (0, b0) := sg10 hS.2.2.1 4 0 gF rfl (by rw [gF_eq]; omega)
      refine ⟨0, a, b0, ?_, ?_, f1, fun _ _ => rfl, f2⟩
      · simp (config := { decide := true }) only [F_C_signs, if_false, if_true, F_D_agreedCouples, e1, Option.bind_some]
      · simp only [F_R_signs, if_true, ← hb0, hm]
    · obtain ⟨v, v1, v2⟩ := ac9 hS e 4 0 gF gF 0 rfl (by rw [gF_eq]; omega) (by rw [gF_eq]; omega)
      obtain ⟨t, o, z⟩ := v2 b0 (fun _ _ => rfl)
      have v1 : F_D_agreedCouples_9 gF 0 0 a = some (v, a) := v1
      have z : F_R_signs_10 gF 0 0 b0 = some (v, t) := z
      have e1 : ¬ a 26 1 = 0 := by rw [hS.2.1]; exact nI_ne0 e (by omega)
      obtain ⟨f1, f2⟩ := fin t o
      refine ⟨v, a, t, ?_, ?_, f1, fun _ _ => rfl, f2⟩
      · simp (config := { decide := true }) only [F_C_signs, if_false, if_true, F_D_agreedCouples, if_neg e1, v1, Option.bind_some]
      · simp only [F_R_signs, if_true, ← hb0, z]
  · by_cases hx : 0 ≤ x ∧ x ≤ 1
    · obtain ⟨k, k1, rfl⟩ := in_nI (m := 1) (by decide) hx
      obtain ⟨r, t, r1, r2, o, r4⟩ := tsM (x1 := nI k) (fun X hX => (hT X hX).2) 14 gF 15 b0 (Nat.le_refl _) (by rw [gF_eq]; omega) B1 (fun _ _ => rfl)
      have r4 : F_R_signs_53 gF (nI k) 15 14 b0 = _ := r4
      obtain ⟨f1, f2⟩ := fin t o
      rcases (show k = 0 ∨ k = 1 by omega) with rfl | rfl
      · rw [if_neg (show ¬ nI 0 = 1 from by decide)] at r4
        obtain ⟨v, v1, v2⟩ := wnP (t := t) (fun X hX => (hT X hX).1) r1 r2 4 0 gF gF rfl (by rw [gF_eq]; omega) (by rw [gF_eq]; omega) (fun j hj => absurd hj (by omega))
        have v1 : F_D_winner a = some (v, a) := v1
        have v2 : F_R_signs_77 gF (nI r) 0 t = some (v, t) := v2
        rw [v2] at r4
        refine ⟨v, a, t, ?_, ?_, f1, fun _ _ => rfl, f2⟩
        · simp only [F_C_signs, if_pos (show nI 0 = 0 from rfl), v1, Option.bind_some]
        · simp only [F_R_signs, if_neg c2, ← hb0, R_isIn, Option.bind_some, b01, hx, and_self, not_true_eq_false, if_false, one0, r4]
      · rw [if_pos (show nI 1 = 1 from rfl)] at r4
        obtain ⟨r', w1, w2, w3⟩ := tsC (fun X hX => (hT X hX).1) 14 1 gF 15 rfl (Nat.le_refl 1) (by rw [gF_eq]; omega) B0
        have e := Bst_u w1 r1
        subst e
        have w3 : F_D_topSet a = some (nI r', a) := w3
        refine ⟨nI r', a, t, ?_, ?_, f1, fun _ _ => rfl, f2⟩
        · simp only [F_C_signs, show (nI 1 = 0) = False from by decide, if_false, if_pos (show nI 1 = 1 from rfl), w3, Option.bind_some]
        · simp only [F_R_signs, if_neg c2, ← hb0, R_isIn, Option.bind_some, b01, hx, and_self, not_true_eq_false, if_false, one0, r4]
    · obtain ⟨f1, f2⟩ := fin b0 (fun _ _ => rfl)
      have n0 : ¬ x = 0 := fun q => hx (by rw [q]; decide)
      have n1 : ¬ x = 1 := fun q => hx (by rw [q]; decide)
      refine ⟨-1, a, b0, ?_, ?_, f1, fun _ _ => rfl, f2⟩
      · simp only [F_C_signs, if_neg n0, if_neg n1, if_neg c2]
      · simp only [F_R_signs, if_neg c2, ← hb0, R_isIn, Option.bind_some, b01, hx, not_false_eq_true, if_true]
theorem g_signs (x : Int32) : Good Inv (F_C_signs x) (F_R_signs x) := good_of (p_signs x)
