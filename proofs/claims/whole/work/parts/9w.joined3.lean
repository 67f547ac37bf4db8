/-! ===== joined: the reference's table; the call ===== -/
theorem n17 (i k : Nat) : (17 : Int32) * nI i + nI k = nI (17 * i + k) := by
  rw [show (17 : Int32) = nI 17 from rfl, n_mul, nI_add]
theorem ep_1 {x k : Nat} : nI (x + (k + 1)) - 1 = nI (x + k) := nI_pred (x + k)
theorem jcM {a b : Mem} {f g y z i k : Nat} {G H : Nat → Nat} (h : HB a b g z H) (hf : HB a b f y G) (hi : i ≤ y) (hk : k ≤ z) (e : ∀ i' k', i' ≤ i → k' ≤ k → i' + k' < i + k → b 150 (17 * i' + k') = nI (jc G H i' k')) : F_R_joinCost (nI f) (nI g) (nI i) (nI k) b = some (nI (jc G H i k), b) := by
  have z16 := h.2.2.1
  have y16 := hf.2.2.1
  have hH : ∀ i, i < z → H i ≤ 40 := fun i hi => (h.2.2.2.2.2 i hi).2.1
  have hG : ∀ i, i < y → G i ≤ 40 := fun i hi => (hf.2.2.2.2.2 i hi).2.1
  have ld1 : ∀ i' k', i' ≤ i → k' ≤ k → i' + k' < i + k → ld b 150 (nI (17 * i' + k')) = some (nI (jc G H i' k')) := fun i' k' h1 h2 h3 => (ld_in rfl (show 17 * i' + k' < 289 by omega) (by decide)).trans (congrArg some (e i' k' h1 h2 h3))
  cases i with
  | zero =>
    cases k with
    | zero => simp only [F_R_joinCost, show (nI 0 + nI 0 = 0) = True from by decide, if_true]; rfl
    | succ k =>
      have l1 := ld1 0 k (Nat.le_refl 0) (by omega) (by omega)
      have l2 := (HB_at h (show k < z by omega)).2
      rw [n16] at l2
      have b1 := jc_le (G := G) hH 0 (fun j hj => absurd hj (Nat.not_lt_zero j)) k (by omega)
      have b2 := hH k (by omega)
      have g0 : ¬ nI 0 + nI (k + 1) = 0 := by rw [nI_add]; exact nI_ne0 (by omega) (by omega)
      have g1 : ¬ nI (k + 1) ≤ 0 := nI_ge (a := 0) (by omega) (by omega)
      have ef : mn 100000000 (jc G H 0 k + H k) = jc G H 0 (k + 1) := by
        unfold mn
        rw [if_pos (by omega)]
        rfl
      have e3 : (if nI (jc G H 0 k + H k) ≤ 100000000 then nI (jc G H 0 k + H k) else 100000000) = nI (jc G H 0 (k + 1)) := by
        rw [← ef]
        exact n_ml (x := 100000000) (by decide) (by omega)
      rw [F_R_joinCost, if_neg g0]
      simp only [show (nI 0 ≤ 0) = True from by decide, if_true, if_neg g1, n17, n16, ep_1, l1, l2, Option.bind_some, nI_add, R_lesser, e3]
  | succ i =>
    have l1 := ld1 i k (by omega) (Nat.le_refl k) (by omega)
    have l2 := (HB_at hf (show i < y by omega)).2
    rw [n16] at l2
    have b2 := hG i (by omega)
    have b1 := jc_le (G := G) hH i (fun j hj => hG j (by omega)) k (by omega)
    have g2 : ¬ nI (i + 1) ≤ 0 := nI_ge (a := 0) (by omega) (by omega)
    have ep : nI (i + 1) - 1 = nI i := nI_pred i
    have g0 : ¬ nI (i + 1) + nI k = 0 := by rw [nI_add]; exact nI_ne0 (by omega) (by omega)
    cases k with
    | zero =>
      rw [F_R_joinCost, if_neg g0]
      simp only [if_neg g2, show (nI 0 ≤ 0) = True from by decide, if_true, ep, n17, n16, ep_1, l1, l2, Option.bind_some, nI_add]
      rfl
    | succ k =>
      have l3 := ld1 (i + 1) k (Nat.le_refl _) (by omega) (by omega)
      have l4 := (HB_at h (show k < z by omega)).2
      have l5 := ld1 i k (by omega) (by omega) (by omega)
      rw [n16] at l4
      have g1 : ¬ nI (k + 1) ≤ 0 := nI_ge (a := 0) (by omega) (by omega)
      have b3 := jc_le (G := G) hH (i + 1) (fun j hj => hG j (by omega)) k (by omega)
      have b4 := jc_le (G := G) hH i (fun j hj => hG j (by omega)) k (by omega)
      have b5 := hH k (by omega)
      have b6 := df_le b2 b5
      have b7 := mn_le (jc G H i (k + 1) + G i) (jc G H (i + 1) k + H k)
      have ej : jc G H (i + 1) (k + 1) = mn (mn (jc G H i (k + 1) + G i) (jc G H (i + 1) k + H k)) (jc G H i k + df (G i) (H k)) := rfl
      rw [F_R_joinCost, if_neg g0]
      simp only [if_neg g2, if_neg g1, ep, n17, n16, ep_1, l1, l2, l3, l4, l5, Option.bind_some, nI_add, R_lesser, R_apart b2 b5, n_ml (show jc G H i (k + 1) + G i < 2 ^ 31 by omega) (show jc G H (i + 1) k + H k < 2 ^ 31 by omega), n_ml (show mn (jc G H i (k + 1) + G i) (jc G H (i + 1) k + H k) < 2 ^ 31 by omega) (show jc G H i k + df (G i) (H k) < 2 ^ 31 by omega), ej]
theorem jm37 {a : Mem} {f g y z i : Nat} {G H : Nat → Nat} {k29 : Int32 → Int32 → Int32 → Mem → Option (Int32 × Mem)} (hi : i ≤ y) : ∀ (q k m : Nat) (b : Mem), HB a b g z H → HB a b f y G → k + q = z + 1 → q < m → (∀ i' k', k' ≤ z → (i' < i ∨ (i' = i ∧ k' < k)) → b 150 (17 * i' + k') = nI (jc G H i' k')) → ∃ b', F_R_joined_37 k29 m (nI f) (nI g) (nI i) (nI k) b = k29 (nI f) (nI g) (nI (i + 1)) b' ∧ (∀ i' k', k' ≤ z → i' < i + 1 → b' 150 (17 * i' + k') = nI (jc G H i' k')) ∧ ∀ c, c ≠ 150 → b' c = b c := by
  intro q
  induction q with
  | zero =>
    intro k m b h hf hk hm e
    obtain ⟨m, rfl⟩ : ∃ k, m = k + 1 := ⟨m - 1, by omega⟩
    have z16 := h.2.2.1
    refine ⟨b, ?_, fun i' k' h1 h2 => e i' k' h1 (by omega), fun _ _ => rfl⟩
    simp only [F_R_joined_37, (HB_sz h).2, Option.bind_some, if_pos (show nI z < nI k from nI_lt (by omega) (by omega)), nI_1]
  | succ q ih =>
    intro k m b h hf hk hm e
    obtain ⟨m, rfl⟩ : ∃ k, m = k + 1 := ⟨m - 1, by omega⟩
    have z16 := h.2.2.1
    have y16 := hf.2.2.1
    have hj := jcM (i := i) (k := k) h hf hi (by omega) (fun i' k' h1 h2 h3 => e i' k' (by omega) (by omega))
    have w1 : ∀ v, sd b 150 (nI (17 * i + k)) v = some (mw b 150 (17 * i + k) v) := fun v => sd_in rfl (show 17 * i + k < 289 by omega) (by decide)
    obtain ⟨b', z1, z2, z3⟩ := ih (k + 1) m (mw b 150 (17 * i + k) (nI (jc G H i k))) (HB_m h (fun c hc => mw_o hc)) (HB_m hf (fun c hc => mw_o hc)) (by omega) (by omega) (fun i' k' h1 h2 => by
      by_cases c : i' = i ∧ k' = k
      · rw [c.1, c.2, mw_y]
      · rw [mw_n (by omega)]
        exact e i' k' h1 (by omega))
    refine ⟨b', ?_, z2, fun c hc => (z3 c hc).trans (mw_o hc)⟩
    rw [← z1]
    simp only [F_R_joined_37, (HB_sz h).2, Option.bind_some, if_neg (show ¬ nI z < nI k from nI_nlt (by omega) (by omega)), hj, n17, w1, nI_1]
theorem jm29 {a : Mem} {f g y z : Nat} {G H : Nat → Nat} : ∀ (q i m : Nat) (b : Mem), HB a b g z H → HB a b f y G → i + q = y + 1 → q < m → (∀ i' k', k' ≤ z → i' < i → b 150 (17 * i' + k') = nI (jc G H i' k')) → ∃ b', F_R_joined_29 m (nI f) (nI g) (nI i) b = some (nI (jc G H y z), b') ∧ ∀ c, c ≠ 150 → b' c = b c := by
  intro q
  induction q with
  | zero =>
    intro i m b h hf hi hm e
    obtain ⟨m, rfl⟩ : ∃ k, m = k + 1 := ⟨m - 1, by omega⟩
    have z16 := h.2.2.1
    have y16 := hf.2.2.1
    have l1 : ld b 150 (nI (17 * y + z)) = some (nI (jc G H y z)) := (ld_in rfl (show 17 * y + z < 289 by omega) (by decide)).trans (congrArg some (e y z (Nat.le_refl z) (by omega)))
    refine ⟨b, ?_, fun _ _ => rfl⟩
    simp only [F_R_joined_29, (HB_sz hf).2, (HB_sz h).2, Option.bind_some, if_pos (show nI y < nI i from nI_lt (by omega) (by omega)), n17, l1]
  | succ q ih =>
    intro i m b h hf hi hm e
    obtain ⟨m, rfl⟩ : ∃ k, m = k + 1 := ⟨m - 1, by omega⟩
    have z16 := h.2.2.1
    have y16 := hf.2.2.1
    obtain ⟨b1, z1, z2, z3⟩ := jm37 (i := i) (k29 := F_R_joined_29 m) (show i ≤ y by omega) (z + 1) 0 gF b h hf (by omega) (by rw [gF_eq]; omega) (fun i' k' h1 h2 => e i' k' h1 (by omega))
    have z1 : F_R_joined_37 (F_R_joined_29 m) gF (nI f) (nI g) (nI i) 0 b = _ := z1
    obtain ⟨b2, y1, y2⟩ := ih (i + 1) m b1 (HB_m h z3) (HB_m hf z3) (by omega) (by omega) z2
    refine ⟨b2, ?_, fun c hc => (y2 c hc).trans (z3 c hc)⟩
    rw [← y1, ← z1]
    simp only [F_R_joined_29, (HB_sz hf).2, Option.bind_some, if_neg (show ¬ nI y < nI i from nI_nlt (by omega) (by omega))]
theorem I2_jo {a b a' b' : Mem} (h : I2 a b) (ha : ∀ c, c ≠ 94 → c ≠ 95 → a' c = a c) (hb : ∀ c, c ≠ 150 → b' c = b c) : I2 a' b' := by
  refine I2_rel h (fun c k hr => ?_) (fun c k hr => ?_)
  · by_cases c1 : c = 94
    · subst c1; exact absurd hr (show ¬ false = true from Bool.false_ne_true)
    · by_cases c2 : c = 95
      · subst c2; exact absurd hr (show ¬ false = true from Bool.false_ne_true)
      · rw [ha c c1 c2]
  · by_cases c1 : c = 150
    · subst c1; exact absurd hr (show ¬ false = true from Bool.false_ne_true)
    · rw [hb c c1]
theorem HB_of {a b : Mem} (h : I2 a b) {f : Nat} (hf : f < nF a) : ∃ H, HB a b f (sz a f) H := by
  obtain ⟨hz, hc, hm⟩ := I2_sz h
  obtain ⟨⟨hHS, -⟩, -⟩ := id h
  have hHS : HS a b := hHS
  obtain ⟨z1, z16⟩ := hz.2 f hf
  have hh : ∀ i, i < sz a f → 5 ≤ (a 3 (16 * f + i)).toNatClampNeg ∧ (a 3 (16 * f + i)).toNatClampNeg ≤ 40 ∧ a 3 (16 * f + i) = nI (a 3 (16 * f + i)).toNatClampNeg ∧ b 128 (16 * f + i) = nI (a 3 (16 * f + i)).toNatClampNeg := fun i hi => by
    obtain ⟨q, q5, q40, q1, q2⟩ := hHS.2.2.2.2 f i ⟨hf, hi⟩
    rw [q1, nI_clamp (by omega)]
    exact ⟨q5, q40, rfl, q2⟩
  exact ⟨fun i => (a 3 (16 * f + i)).toNatClampNeg, by have := hz.1; omega, z1, z16, hc.2 f hf, hm.2 f hf, hh⟩
theorem R_isF_y {s : Mem} {n f : Nat} {z : Nat → Nat} (hz : szOK n z) (hc : mSz s n z) (hf : f < n) : F_R_isFlight (nI f) s = some (1, s) := by
  rcases R_isF hz hc (nI f) with ⟨f', -, -, h⟩ | ⟨hno, -⟩
  · exact h
  · exact absurd rfl (hno f hf)
theorem R_isF_n {s : Mem} {n : Nat} {z : Nat → Nat} {x : Int32} (hz : szOK n z) (hc : mSz s n z) (hno : ∀ f, f < n → x ≠ nI f) : F_R_isFlight x s = some (0, s) := by
  rcases R_isF hz hc x with ⟨f', h1, h2, -⟩ | ⟨-, h⟩
  · exact absurd h2 (hno f' h1)
  · exact h
theorem p_joined (x y w : Int32) : Pair I2 I2 (F_C_joined x y w) (F_R_joined x y w) := by
  intro a b h
  obtain ⟨hz, hc, hm⟩ := I2_sz h
  have fr0 : ∀ c, c < 123 → (mw b 123 0 0) c = b c := fun c hc => mw_o (by omega)
  have h0 : I2 a (mw b 123 0 0) := I2_0 h
  have hm0 : mSz (mw b 123 0 0) (nF a) (sz a) := hm
  obtain ⟨b0, hb0⟩ : ∃ b0, b0 = mw b 123 0 0 := ⟨_, rfl⟩
  rw [← hb0] at h0 fr0 hm0
  have fin : ∀ (v : Int32) (a' b' : Mem), F_C_joined x y w a = some (v, a') → F_R_joined x y w b = some (v, b') → (∀ c, c ≠ 94 → c ≠ 95 → a' c = a c) → (∀ c, c ≠ 150 → b' c = b0 c) → ∃ (v : Int32) (a' b' : Mem), F_C_joined x y w a = some (v, a') ∧ F_R_joined x y w b = some (v, b') ∧ I2 a' b' ∧ (∀ c, ¬ c < 123 → a' c = a c) ∧ ∀ c, c < 123 → b' c = b c := fun v a' b' z1 z2 z3 z4 => ⟨v, a', b', z1, z2, I2_jo h0 z3 z4, fun c hc => z3 c (by omega) (by omega), fun c hc => (z4 c (by omega)).trans (fr0 c hc)⟩
  rcases C_has1 hz hc x with ⟨f, hf, rfl, hh⟩ | ⟨hno, hh⟩
  · have rf := R_isF_y hz hm0 hf
    rcases C_has1 hz hc y with ⟨g, hg, rfl, hh2⟩ | ⟨hno, hh2⟩
    · have rg := R_isF_y hz hm0 hg
      obtain ⟨G, hG⟩ := HB_of h0 hf
      obtain ⟨H, hH⟩ := HB_of h0 hg
      by_cases hw : 0 ≤ w ∧ w ≤ 1
      · obtain ⟨k, k1, rfl⟩ := in_nI (m := 1) (by decide) hw
        have y16 := hG.2.2.1
        rcases (show k = 0 ∨ k = 1 by omega) with rfl | rfl
        · obtain ⟨a', z1, z2⟩ := jo_p hH hG
          obtain ⟨b', y1, y2⟩ := jm29 (a := a) (sz a f + 1) 0 gF b0 hH hG (by omega) (by rw [gF_eq]; omega) (fun i' k' _ h2 => absurd h2 (Nat.not_lt_zero i'))
          have y1 : F_R_joined_29 gF (nI f) (nI g) 0 b0 = _ := y1
          refine fin (nI (jc G H (sz a f) (sz a g))) a' b' ?_ ?_ z2 y2
          · simp only [F_C_joined, hh, hh2, Option.bind_some, one0, if_false, C_within, b01, hw, and_self, not_true_eq_false, if_pos (show nI 0 = 0 from rfl), z1]
          · simp only [F_R_joined, ← hb0, rf, rg, Option.bind_some, one0, if_false, R_isIn, b01, hw, and_self, not_true_eq_false, if_neg (show ¬ nI 0 = 1 from by decide), y1]
        · obtain ⟨v, z1, z2⟩ := lv6 hH hG (sz a f) 0 gF gF 0 (Nat.zero_add _) (by rw [gF_eq]; omega) (by rw [gF_eq]; omega)
          have z1 : F_U_commonHeights_6 gF (nI f) (nI g) 0 0 0 a = _ := z1
          have z2 : F_R_levels_6 gF (nI f) (nI g) 0 0 0 b0 = _ := z2
          refine fin v a b0 ?_ ?_ (fun _ _ _ => rfl) (fun _ _ => rfl)
          · simp only [F_C_joined, hh, hh2, Option.bind_some, one0, if_false, C_within, b01, hw, and_self, not_true_eq_false, if_neg (show ¬ nI 1 = 0 from by decide), F_U_commonHeights, z1]
          · simp only [F_R_joined, ← hb0, rf, rg, Option.bind_some, one0, if_false, R_isIn, b01, hw, and_self, not_true_eq_false, if_pos (show nI 1 = 1 from rfl), F_R_levels, z2]
      · refine fin (-1) a b0 ?_ ?_ (fun _ _ _ => rfl) (fun _ _ => rfl)
        · simp only [F_C_joined, hh, hh2, Option.bind_some, one0, if_false, C_within, b01, hw, not_false_eq_true, if_true]
        · simp only [F_R_joined, ← hb0, rf, rg, Option.bind_some, one0, if_false, R_isIn, b01, hw, not_false_eq_true, if_true]
    · have rg := R_isF_n hz hm0 hno
      refine fin (-1) a b0 ?_ ?_ (fun _ _ _ => rfl) (fun _ _ => rfl)
      · simp only [F_C_joined, hh, hh2, Option.bind_some, one0, if_false, if_true]
      · simp only [F_R_joined, ← hb0, rf, rg, Option.bind_some, one0, if_false, if_true]
  · have rf := R_isF_n hz hm0 hno
    refine fin (-1) a b0 ?_ ?_ (fun _ _ _ => rfl) (fun _ _ => rfl)
    · simp only [F_C_joined, hh, Option.bind_some, if_true]
    · simp only [F_R_joined, ← hb0, rf, Option.bind_some, if_true]
theorem g_joined (x y w : Int32) : Good Inv (F_C_joined x y w) (F_R_joined x y w) := good_of (p_joined x y w)
