/-- both find the rolls of all sets, then answer -/
noncomputable def rnE (r w : Int32) (b : Mem) : Option (Int32 × Mem) :=
  let y5 : Int32 := ((shl 1 (b 123 57)) - 1)
  (ld b 156 y5).bind fun v6 =>
  if v6 < 100000000 then
    if w = 0 then
      (ld b 156 y5).bind fun v7 =>
      some (v7, b)
    else
    F_R_runner_51 gF r y5 0 1 b
  else
  some ((-1), b)
theorem cu19 {L : Nat → Nat} {n : Nat} {r w : Int32} (hn : n ≤ 7) (n0 : 0 < n) : ∀ (q t m m' : Nat) (a b : Mem), t + q = 2 ^ n → 0 < t → q < m → q < m' → b 123 57 = nI n → (∀ k, k < n → b 154 k = nI (L k)) → (∀ u, 0 < u → u < 2 ^ n → a 101 u = nI (usd L n u)) → (∀ u, 0 < u → u < t → b 155 u = nI (usd L n u)) → RB t a b → ∃ (v : Int32) (a' b' : Mem), F_D_cutRolls_19 m r w (nI (2 ^ n - 1)) (nI t) a = some (v, a') ∧ (F_R_findsRolls_7 m' r (nI t) b).bind (fun z => rnE r w z.2) = some (v, b') ∧ (∀ x, x ≠ 102 → a' x = a x) ∧ ∀ x, x ≠ 155 → x ≠ 156 → b' x = b x := by
  have hp : 2 ^ n ≤ 2 ^ 7 := Nat.pow_le_pow_right (by decide) hn
  have hp : 2 ^ n ≤ 128 := hp
  have hp1 : 2 ^ 1 ≤ 2 ^ n := Nat.pow_le_pow_right (by decide) n0
  have hp1 : 2 ≤ 2 ^ n := hp1
  have esh : shl 1 (nI n) = nI (2 ^ n) := n_shl1 (by omega)
  have es1 : nI (2 ^ n) - 1 = nI (2 ^ n - 1) := n_sub (b := 1) (by omega)
  intro q
  induction q with
  | zero =>
    intro t m m' a b ht h0 hm hm' e1 e2 ea eb hR
    obtain ⟨m, rfl⟩ : ∃ k, m = k + 1 := ⟨m - 1, by omega⟩
    obtain ⟨m', rfl⟩ : ∃ k, m' = k + 1 := ⟨m' - 1, by omega⟩
    have : t = 2 ^ n := by omega
    subst this
    have g : nI (2 ^ n - 1) < nI (2 ^ n) := nI_lt (by omega) (by omega)
    have g' : nI (2 ^ n) ≤ nI (2 ^ n) := nI_le (Nat.le_refl _) (by omega)
    have l1 : ld a 102 (nI (2 ^ n - 1)) = some (a 102 (2 ^ n - 1)) := ld_in rfl (show 2 ^ n - 1 < 128 by omega) (by decide)
    have l2 : ld b 156 (nI (2 ^ n - 1)) = some (b 156 (2 ^ n - 1)) := ld_in rfl (show 2 ^ n - 1 < 128 by omega) (by decide)
    have hb : (F_R_findsRolls_7 (m' + 1) r (nI (2 ^ n)) b).bind (fun z => rnE r w z.2) = rnE r w b := by
      simp only [F_R_findsRolls_7, e1, esh, if_pos g', Option.bind_some]
    rw [hb]
    rcases hR.2 (2 ^ n - 1) (by omega) (by omega) with ⟨p1, p2⟩ | ⟨x, x1, p1, p2⟩
    · refine ⟨-1, a, b, ?_, ?_, fun _ _ => rfl, fun _ _ _ => rfl⟩
      · simp only [F_D_cutRolls_19, if_pos g, l1, p1, Option.bind_some, if_neg (show ¬ (1000000 : Int32) < 1000000 from by decide)]
      · simp only [rnE, e1, esh, es1, l2, p2, Option.bind_some, if_neg (show ¬ (100000000 : Int32) < 100000000 from by decide)]
    · have k1 : nI x < 1000000 := nI_lt (b := 1000000) (by omega) (by decide)
      have k2 : nI x < 100000000 := nI_lt (b := 100000000) (by omega) (by decide)
      by_cases cw : w = 0
      · refine ⟨nI x, a, b, ?_, ?_, fun _ _ => rfl, fun _ _ _ => rfl⟩
        · simp only [F_D_cutRolls_19, if_pos g, l1, p1, Option.bind_some, if_pos k1, if_pos cw]
        · simp only [rnE, e1, esh, es1, l2, p2, Option.bind_some, if_pos k2, if_pos cw]
      · obtain ⟨v, z1, z2⟩ := ml4 (L := L) (r := r) (w := x) hn ea eb hR (by omega) ⟨p1, p2⟩ (2 ^ n - 1) 1 gF gF 0 (by omega) (by decide) (by rw [gF_eq]; omega) (by rw [gF_eq]; omega)
        have z1 : F_D_mostLeft_4 gF (nI (2 ^ n - 1)) r 0 1 a = some (v, a) := z1
        have z2 : F_R_runner_51 gF r (nI (2 ^ n - 1)) 0 1 b = some (v, b) := z2
        refine ⟨v, a, b, ?_, ?_, fun _ _ => rfl, fun _ _ _ => rfl⟩
        · simp only [F_D_cutRolls_19, if_pos g, l1, p1, Option.bind_some, if_pos k1, if_neg cw, F_D_mostLeft, z1]
        · simp only [rnE, e1, esh, es1, l2, p2, Option.bind_some, if_pos k2, if_neg cw, z2]
  | succ q ih =>
    intro t m m' a b ht h0 hm hm' e1 e2 ea eb hR
    obtain ⟨m, rfl⟩ : ∃ k, m = k + 1 := ⟨m - 1, by omega⟩
    obtain ⟨m', rfl⟩ : ∃ k, m' = k + 1 := ⟨m' - 1, by omega⟩
    have g : ¬ nI (2 ^ n - 1) < nI t := nI_nlt (by omega) (by omega)
    have g' : ¬ nI (2 ^ n) ≤ nI t := nI_ge (by omega) (by omega)
    have us := us_p (L := L) (b := b) hn (show t < 128 by omega) h0 e1 e2
    have w5 : ∀ v, sd b 155 (nI t) v = some (mw b 155 t v) := fun v => sd_in rfl (show t < 128 by omega) (by decide)
    obtain ⟨b1, hb1⟩ : ∃ b1, b1 = mw b 155 t (nI (usd L n t)) := ⟨_, rfl⟩
    have w6 : ∀ v, sd b1 156 (nI t) v = some (mw b1 156 t v) := fun v => sd_in rfl (show t < 128 by omega) (by decide)
    obtain ⟨b2, hb2⟩ : ∃ b2, b2 = mw b1 156 t 100000000 := ⟨_, rfl⟩
    have o1 : ∀ x, x ≠ 155 → x ≠ 156 → b2 x = b x := fun x h5 h6 => by rw [hb2, mw_o h6, hb1, mw_o h5]
    have o2 : ∀ u, u ≠ t → b2 156 u = b 156 u := fun u hu => by rw [hb2, mw_n hu, hb1, mw_o (by decide)]
    have o3 : ∀ u, 0 < u → u ≤ t → b2 155 u = nI (usd L n u) := fun u u0 u1 => by
      rw [hb2, mw_o (by decide), hb1]
      by_cases c : u = t
      · rw [c, mw_y]
      · rw [mw_n c]
        exact eb u u0 (by omega)
    obtain ⟨v, b3, z1, z2, z3, z4, z5⟩ := fw4 (L := L) (r := r) (a := a) (k7 := F_R_findsRolls_7 m') hn (show t < 2 ^ n by omega) h0 ea t gF gF 1000000 b2 (Nat.and_self t) (by rw [gF_eq]; omega) (by rw [gF_eq]; omega) o3 ⟨by rw [o2 0 (by omega)]; exact hR.1, fun u u0 u1 => by rw [o2 u (by omega)]; exact hR.2 u u0 u1⟩ (Or.inl ⟨rfl, by rw [hb2, mw_y]⟩)
    have wa : ∀ v, sd a 102 (nI t) v = some (mw a 102 t v) := fun v => sd_in rfl (show t < 128 by omega) (by decide)
    obtain ⟨v', a', b', y1, y2, y3, y4⟩ := ih (t + 1) m m' (mw a 102 t v) b3 (by omega) (by omega) (by omega) (by omega) (by rw [z4 123 (by decide), o1 123 (by decide) (by decide)]; exact e1) (by rw [z4 154 (by decide), o1 154 (by decide) (by decide)]; exact e2) ea (by rw [z4 155 (by decide)]; exact fun u u0 u1 => o3 u u0 (by omega)) (by
      refine ⟨by rw [z5 0 (by omega), o2 0 (by omega)]; exact hR.1, fun u u0 u1 => ?_⟩
      by_cases c : u = t
      · rw [c, mw_y]; exact z3
      · rw [mw_n c, z5 u c, o2 u c]
        exact hR.2 u u0 (by omega))
    refine ⟨v', a', b', ?_, ?_, fun x hx => (y3 x hx).trans (mw_o hx), fun x h5 h6 => by rw [y4 x h5 h6, z4 x h6, o1 x h5 h6]⟩
    · rw [← y1]
      simp only [F_D_cutRolls_19, if_neg g, F_D_fewestRolls, z1, Option.bind_some, wa, nI_1]
    · rw [← y2, ← z2]
      simp only [F_R_findsRolls_7, e1, esh, if_neg g', us, Option.bind_some, w5, ← hb1, w6, ← hb2]
theorem I2_rn {a b a' b' : Mem} (h : I2 a b) (ha : ∀ c, c ≠ 101 → c ≠ 102 → a' c = a c) (hb : ∀ c, c ≠ 155 → c ≠ 156 → b' c = b c) : I2 a' b' := by
  refine I2_rel h (fun c k hr => ?_) (fun c k hr => ?_)
  · by_cases c1 : c = 101
    · subst c1; exact absurd hr (show ¬ false = true from Bool.false_ne_true)
    · by_cases c2 : c = 102
      · subst c2; exact absurd hr (show ¬ false = true from Bool.false_ne_true)
      · rw [ha c c1 c2]
  · by_cases c1 : c = 155
    · subst c1; exact absurd hr (show ¬ false = true from Bool.false_ne_true)
    · by_cases c2 : c = 156
      · subst c2; exact absurd hr (show ¬ false = true from Bool.false_ne_true)
      · rw [hb c c1 c2]
theorem p_runner (x y : Int32) : Pair I2 I2 (F_C_runner x y) (F_R_runner x y) := by
  intro a b h
  have fr0 : ∀ c, c < 123 → (mw b 123 0 0) c = b c := fun c hc => mw_o (by omega)
  have h0 : I2 a (mw b 123 0 0) := I2_0 h
  obtain ⟨b0, hb0⟩ : ∃ b0, b0 = mw b 123 0 0 := ⟨_, rfl⟩
  rw [← hb0] at h0 fr0
  obtain ⟨n, n1, n2, n3, n4, n5⟩ : ∃ n, n ≤ 7 ∧ a 30 1 = nI n ∧ b0 123 57 = nI n ∧ (∀ k, k < 7 → b0 154 k = a 31 k) ∧ ∀ k, k < n → inN 1 60 (a 31 k) := by
    obtain ⟨⟨-, -, -, -, -, -, -, -, -, -, -, hR, -⟩, -⟩ := id h0
    exact hR
  obtain ⟨L, d2, d3⟩ : ∃ L : Nat → Nat, (∀ j, j < n → a 31 j = nI (L j)) ∧ ∀ j, j < n → b0 154 j = nI (L j) := by
    have hh : ∀ j, j < n → a 31 j = nI (a 31 j).toNatClampNeg := fun j hj => by
      obtain ⟨v, -, v1, v2⟩ := n5 j hj
      rw [v2, nI_clamp (by omega)]
    exact ⟨fun j => (a 31 j).toNatClampNeg, hh, fun j hj => (n4 j (by omega)).trans (hh j hj)⟩
  have fin : ∀ (v : Int32) (a' b' : Mem), F_C_runner x y a = some (v, a') → F_R_runner x y b = some (v, b') → (∀ c, c ≠ 101 → c ≠ 102 → a' c = a c) → (∀ c, c ≠ 155 → c ≠ 156 → b' c = b0 c) → ∃ (v : Int32) (a' b' : Mem), F_C_runner x y a = some (v, a') ∧ F_R_runner x y b = some (v, b') ∧ I2 a' b' ∧ (∀ c, ¬ c < 123 → a' c = a c) ∧ ∀ c, c < 123 → b' c = b c := fun v a' b' z1 z2 z3 z4 => ⟨v, a', b', z1, z2, I2_rn h0 z3 z4, fun c hc => z3 c (by omega) (by omega), fun c hc => (z4 c (by omega) (by omega)).trans (fr0 c hc)⟩
  by_cases hx : 1 ≤ x ∧ x ≤ 120
  · by_cases hy : 0 ≤ y ∧ y ≤ 1
    · have mn : F_JM_min (a 30 1) 7 a = some (nI n, a) := by
        rw [C_min, n2, if_neg (show ¬ (7 : Int32) < nI n from nI_nlt (a := 7) (by omega) (by decide))]
      have esh : shl 1 (nI n) = nI (2 ^ n) := n_shl1 (by omega)
      have hC : F_C_runner x y a = (F_D_cutRolls x y a).bind fun z3 => some (z3.1, z3.2) := by
        simp only [F_C_runner, C_within, Option.bind_some, b01, hx, hy, and_self, not_true_eq_false, if_false, one0]
      rcases Nat.eq_zero_or_pos n with e | e
      · subst e
        refine fin 0 a b0 ?_ ?_ (fun _ _ _ => rfl) (fun _ _ _ => rfl)
        · rw [hC]
          simp only [F_D_cutRolls, mn, Option.bind_some, esh, if_pos (show nI (2 ^ 0) - 1 = 0 from by decide)]
        · simp only [F_R_runner, ← hb0, R_isIn, Option.bind_some, b01, hx, hy, and_self, not_true_eq_false, if_false, one0, n3, if_pos (show nI 0 = 0 from rfl)]
      · have hp : 2 ^ n ≤ 2 ^ 7 := Nat.pow_le_pow_right (by decide) n1
        have hp : 2 ^ n ≤ 128 := hp
        have hp1 : 2 ^ 1 ≤ 2 ^ n := Nat.pow_le_pow_right (by decide) e
        have hp1 : 2 ≤ 2 ^ n := hp1
        have es1 : nI (2 ^ n) - 1 = nI (2 ^ n - 1) := n_sub (b := 1) (by omega)
        obtain ⟨a1, z1, z2, z3⟩ := weP (L := L) n1 (2 ^ n - 1) 1 gF a (by omega) (by decide) (by rw [gF_eq]; omega) d2 (fun u u0 u1 => absurd u0 (by omega))
        have z1 : F_D_weigh_2 gF (nI (2 ^ n - 1)) 1 a = some (0, a1) := z1
        have w0 : sd b0 156 0 0 = some (mw b0 156 0 0) := sd_in (k := 0) rfl (by decide) (by decide)
        obtain ⟨v, a2, b2, y1, y2, y3, y4⟩ := cu19 (L := L) (r := x) (w := y) n1 e (2 ^ n - 1) 1 gF gF a1 (mw b0 156 0 0) (by omega) (by decide) (by rw [gF_eq]; omega) (by rw [gF_eq]; omega) n3 d3 z2 (fun u u0 u1 => absurd u0 (by omega)) ⟨rfl, fun u u0 u1 => absurd u0 (by omega)⟩
        have y1 : F_D_cutRolls_19 gF x y (nI (2 ^ n - 1)) 1 a1 = some (v, a2) := y1
        have y2 : (F_R_findsRolls_7 gF x 1 (mw b0 156 0 0)).bind (fun z => rnE x y z.2) = some (v, b2) := y2
        refine fin v a2 b2 ?_ ?_ (fun c c1 c2 => (y3 c c2).trans (z3 c c1)) (fun c c1 c2 => (y4 c c1 c2).trans (mw_o c2))
        · rw [hC]
          simp only [F_D_cutRolls, mn, Option.bind_some, esh, es1, if_neg (show ¬ nI (2 ^ n - 1) = 0 from nI_ne0 (by omega) (by omega)), F_D_weigh, z1, y1]
        · rw [← y2]
          simp only [F_R_runner, ← hb0, R_isIn, Option.bind_some, b01, hx, hy, and_self, not_true_eq_false, if_false, one0, n3, if_neg (show ¬ nI n = 0 from nI_ne0 e (by omega)), F_R_findsRolls, w0]
          rfl
    · refine fin (-1) a b0 ?_ ?_ (fun _ _ _ => rfl) (fun _ _ _ => rfl)
      · simp only [F_C_runner, C_within, Option.bind_some, b01, hx, hy, and_self, not_true_eq_false, not_false_eq_true, if_false, if_true, one0]
      · simp only [F_R_runner, ← hb0, R_isIn, Option.bind_some, b01, hx, hy, and_self, not_true_eq_false, not_false_eq_true, if_false, if_true, one0]
  · refine fin (-1) a b0 ?_ ?_ (fun _ _ _ => rfl) (fun _ _ _ => rfl)
    · simp only [F_C_runner, C_within, Option.bind_some, b01, hx, not_false_eq_true, if_true]
    · simp only [F_R_runner, ← hb0, R_isIn, Option.bind_some, b01, hx, not_false_eq_true, if_true]
theorem g_runner (x y : Int32) : Good Inv (F_C_runner x y) (F_R_runner x y) := good_of (p_runner x y)
