theorem UQ_of {a b : Mem} (h : I2 a b) {f i : Nat} (hf : f < nF a) (hi : i < sz a f) : UQ a b f i := by
  obtain ⟨hz, hc, hm⟩ := I2_sz h
  obtain ⟨f6, i16, -⟩ := nF_16 hz hf hi
  obtain ⟨⟨hHS, hHM, -, hLw, -, -, -, hTR⟩, -, -, hMR⟩ := id h
  have hHS : HS a b := hHS
  have hHM : HM a b := hHM
  have hLw : LwR a b := LwR_2 hLw
  have e41 : b 123 41 = 0 := hMR.2.2.2.2.1
  have hT : ∀ t j, t < 8 → j < 96 → b 124 (5 + 96 * t + j) = a 3 (96 + 96 * t + j) := fun t j ht hj => by
    have := hHM.1 (96 * t + j) (by omega)
    rw [show 5 + 96 * t + j = 5 + (96 * t + j) by omega, this, show 96 + (96 * t + j) = 96 + 96 * t + j by omega]
  have hH : b 128 (16 * f + i) = a 3 (16 * f + i) := by
    obtain ⟨q, -, -, q1, q2⟩ := hHS.2.2.2.2 f i ⟨hf, hi⟩
    rw [q1, q2]
  refine ⟨f6, i16, hLw, ⟨fun t t7 _ => ?_, hH, hHM.2.2.2.2.2.1⟩, ?_⟩
  · rw [hT t _ (by omega) (by omega), show 96 * (t + 1) + 16 * f + i = 96 + 96 * t + (16 * f + i) by omega]
  · obtain ⟨⟨v, v1, v2⟩, -⟩ := hHM.2.2.1 (16 * f + i) (by omega)
    have v3 := hT 1 (16 * f + i) (by decide) (by omega)
    rw [show 5 + 96 * 1 + (16 * f + i) = 101 + (16 * f + i) by omega, show 96 + 96 * 1 + (16 * f + i) = 192 + (16 * f + i) by omega, v2] at v3
    rw [e41, v3, show 96 * 2 + 16 * f + i = 192 + (16 * f + i) by omega]
    show (if nI v + nI 0 ≤ 9 then nI v + nI 0 else 9) = a 3 (192 + (16 * f + i))
    rw [nI_add, Nat.add_zero, if_pos (show nI v ≤ 9 from nI_le (b := 9) v1 (by decide)), v2]
theorem I2_un {a b a' b' : Mem} (h : I2 a b) (ha : eqU a' a) (hb : eqW b' b) : I2 a' b' := by
  refine I2_rel h (fun c k hr => ?_) (fun c k hr => ?_)
  · by_cases c1 : c = 13
    · subst c1; exact absurd hr (show ¬ false = true from Bool.false_ne_true)
    · by_cases c2 : c = 14
      · subst c2; exact absurd hr (show ¬ false = true from Bool.false_ne_true)
      · by_cases c3 : c = 94
        · subst c3; exact absurd hr (show ¬ false = true from Bool.false_ne_true)
        · rw [ha c c1 c2 c3]
  · by_cases c1 : c = 143
    · subst c1; exact absurd hr (show ¬ false = true from Bool.false_ne_true)
    · by_cases c2 : c = 144
      · subst c2; exact absurd hr (show ¬ false = true from Bool.false_ne_true)
      · by_cases c3 : c = 145
        · subst c3; exact absurd hr (show ¬ false = true from Bool.false_ne_true)
        · rw [hb c c1 c2 c3]
theorem p_unheard (x y s w : Int32) : Pair I2 I2 (F_C_unheard x y s w) (F_R_unheard x y s w) := by
  intro a b h
  obtain ⟨hz, hc, hm⟩ := I2_sz h
  have fr0 : ∀ c, c < 123 → (mw b 123 0 0) c = b c := fun c hc => mw_o (by omega)
  have h0 : I2 a (mw b 123 0 0) := I2_0 h
  have hm0 : mSz (mw b 123 0 0) (nF a) (sz a) := hm
  obtain ⟨b0, hb0⟩ : ∃ b0, b0 = mw b 123 0 0 := ⟨_, rfl⟩
  rw [← hb0] at h0 fr0 hm0
  have fin : ∀ (v : Int32) (a' b' : Mem), F_C_unheard x y s w a = some (v, a') → F_R_unheard x y s w b = some (v, b') → eqU a' a → eqW b' b0 → ∃ (v : Int32) (a' b' : Mem), F_C_unheard x y s w a = some (v, a') ∧ F_R_unheard x y s w b = some (v, b') ∧ I2 a' b' ∧ (∀ c, ¬ c < 123 → a' c = a c) ∧ ∀ c, c < 123 → b' c = b c := fun v a' b' z1 z2 z3 z4 => ⟨v, a', b', z1, z2, I2_un h0 z3 z4, fun c hc => z3 c (by omega) (by omega) (by omega), fun c hc => (z4 c (by omega) (by omega) (by omega)).trans (fr0 c hc)⟩
  rcases C_has1 hz hc x with ⟨f, hf, rfl, hh⟩ | ⟨hno, hh⟩
  · have rf := R_isF_y hz hm0 hf
    by_cases hy : 1 ≤ y ∧ y ≤ 200
    · by_cases hs : 1 ≤ s ∧ s ≤ 5
      · by_cases hw : 0 ≤ w ∧ w ≤ 1
        · obtain ⟨t, t5, rfl⟩ := in_nI (m := 5) (by decide) (show 0 ≤ s ∧ s ≤ nI 5 from ⟨by
            have h1 := (fa_le _ _).mp hs.1
            exact (fa_le _ _).mpr (show (0 : Int) ≤ s.toInt from by
              have : (1 : Int32).toInt = 1 := rfl
              omega), hs.2⟩)
          have t1 : 1 ≤ t := by
            rcases Nat.eq_zero_or_pos t with e | e
            · subst e
              exact absurd hs.1 (by decide)
            · exact e
          have f6 : f < 6 := by have := hz.1; omega
          obtain ⟨z1, z16⟩ := hz.2 f hf
          have ez : a 4 f = nI (sz a f) := hc.2 f hf
          have eb : b0 127 f = nI (sz a f) := hm0.2 f hf
          have es : F_H_size 2 (nI f) a = some (nI (sz a f), a) := by rw [H_size (c := 4) rfl rfl rfl rfl f6, ez]
          have lb : ld b0 127 (nI f) = some (nI (sz a f)) := (ld_in rfl (show f < 6 from f6) (by decide)).trans (congrArg some eb)
          obtain ⟨n, hn⟩ : ∃ n, n = sz a f := ⟨_, rfl⟩
          obtain ⟨gn, W, uc, um⟩ := u_ask (w := y) (z := n) (fun i hi => UQ_of h0 hf (show i < sz a f by omega))
          rw [← hn] at ez eb es lb z1 z16
          have hW : ∀ i k, i < n → W i k ≤ 101 := fun i k hi => by
            obtain ⟨-, u2⟩ := uc a i (fun _ _ _ _ => rfl) hi
            obtain ⟨v, a', -, -, q⟩ := u2 k
            rcases q with ⟨-, q⟩ | ⟨-, q⟩ <;> omega
          obtain ⟨T, a1, c1, c2, c3⟩ := qu9 (s := t) f6 z16 ez uc t5 (n + 1) gF a (fun _ => 0) (Nat.le_refl _) (by rw [gF_eq]; omega) (fun _ _ _ _ => rfl) (fun p' h1 h2 => absurd h1 (by omega))
          have c0 : F_U_quietest (nI f) y (nI t) a = some (if T 0 = 1000000 then -1 else nI (T 0), a1) := by
            rw [← c1]
            have e1 : nI (n + 1) + (-1) = nI n := by rw [m1_add]; exact nI_pred n
            simp only [F_U_quietest, es, Option.bind_some, C_min, if_neg (show ¬ (16 : Int32) < nI n from nI_nlt (a := 16) z16 (by decide)), e1]
          have w0 : sd b0 145 0 0 = some (mw b0 145 0 0) := sd_in (k := 0) rfl (by decide) (by decide)
          obtain ⟨D, b1, d1, d2, d3, d4⟩ := un46 (s := t) (x4 := w) z16 um hW t5 t1 n 0 gF (mw b0 145 0 0) (fun _ => 0) (Nat.zero_add n) (by rw [gF_eq]; omega) (fun c _ _ c3 => mw_o c3) rfl (fun j hj => absurd hj (Nat.not_lt_zero j)) (fun p hp => by
            have : p = 0 := by omega
            subst this
            exact ⟨Or.inr (Nat.le_refl 0), by rw [mw_y]; rfl⟩)
          have e := un_eq t1 c3 d3 d4
          rw [e] at d1
          have tf : T 0 ≤ 1000000 := by rw [c3 0 (Nat.zero_le n)]; exact mns_far _ _
          have hR : F_R_unheard (nI f) y (nI t) w b = some (if T 0 = 1000000 then -1 else if w = 0 then nI (T 0) / 100 else irm (nI (T 0)) 100, b1) := by
            rw [← d1]
            simp only [F_R_unheard, ← hb0, rf, Option.bind_some, one0, if_false, R_isIn, b01, hy, hs, hw, and_self, not_true_eq_false, lb, w0]
            by_cases c : t ≤ n
            · rw [if_pos (nI_le c (by omega))]
              have : fr (bsD n t (fun _ => 0) 0) = 100000000 := by
                show fr (if n < t then 0 else 1000000) = _
                rw [if_neg (by omega)]
                rfl
              rw [this]
              rfl
            · rw [if_neg (nI_ge (by omega) (by omega))]
              have : fr (bsD n t (fun _ => 0) 0) = 0 := by
                show fr (if n < t then 0 else 1000000) = _
                rw [if_pos (by omega)]
                rfl
              rw [this]
              rfl
          refine fin (if T 0 = 1000000 then -1 else if w = 0 then nI (T 0) / 100 else irm (nI (T 0)) 100) a1 b1 ?_ hR c2 d2
          by_cases c : T 0 = 1000000
          · rw [if_pos c] at c0 ⊢
            simp only [F_C_unheard, hh, Option.bind_some, one0, if_false, F_C_isVisitor, C_within, b01, hy, hs, hw, and_self, not_true_eq_false, c0, if_true]
          · rw [if_neg c] at c0 ⊢
            have nm : ¬ nI (T 0) = -1 := fun q => by
              have q2 := congrArg Int32.toInt q
              rw [nI_toInt (by omega)] at q2
              have : (-1 : Int32).toInt = -1 := rfl
              omega
            simp only [F_C_unheard, hh, Option.bind_some, one0, if_false, F_C_isVisitor, C_within, b01, hy, hs, hw, and_self, not_true_eq_false, c0, if_neg nm]
            split <;> rfl
        · refine fin (-1) a b0 ?_ ?_ (fun _ _ _ _ => rfl) (fun _ _ _ _ => rfl)
          · simp only [F_C_unheard, hh, Option.bind_some, one0, if_false, F_C_isVisitor, C_within, b01, hy, hs, hw, and_self, not_true_eq_false, not_false_eq_true, if_true]
          · simp only [F_R_unheard, ← hb0, rf, Option.bind_some, one0, if_false, R_isIn, b01, hy, hs, hw, and_self, not_true_eq_false, not_false_eq_true, if_true]
      · refine fin (-1) a b0 ?_ ?_ (fun _ _ _ _ => rfl) (fun _ _ _ _ => rfl)
        · simp only [F_C_unheard, hh, Option.bind_some, one0, if_false, F_C_isVisitor, C_within, b01, hy, hs, and_self, not_true_eq_false, not_false_eq_true, if_true]
        · simp only [F_R_unheard, ← hb0, rf, Option.bind_some, one0, if_false, R_isIn, b01, hy, hs, and_self, not_true_eq_false, not_false_eq_true, if_true]
    · refine fin (-1) a b0 ?_ ?_ (fun _ _ _ _ => rfl) (fun _ _ _ _ => rfl)
      · simp only [F_C_unheard, hh, Option.bind_some, one0, if_false, F_C_isVisitor, C_within, b01, hy, not_false_eq_true, if_true]
      · simp only [F_R_unheard, ← hb0, rf, Option.bind_some, one0, if_false, R_isIn, b01, hy, not_false_eq_true, if_true]
  · have rf := R_isF_n hz hm0 hno
    refine fin (-1) a b0 ?_ ?_ (fun _ _ _ _ => rfl) (fun _ _ _ _ => rfl)
    · simp only [F_C_unheard, hh, Option.bind_some, if_true]
    · simp only [F_R_unheard, ← hb0, rf, Option.bind_some, if_true]
theorem g_unheard (x y s w : Int32) : Good Inv (F_C_unheard x y s w) (F_R_unheard x y s w) := good_of (p_unheard x y s w)
