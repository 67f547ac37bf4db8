theorem tel7 {n f z A : Nat} {a1 b0 : Mem} (hA : A < 2 ^ n) (hf : f < 6) (hz : z ≤ 16) (ez : a1 93 f = nI z) (eb : b0 127 f = nI z) (hV : VR n a1 b0) (hL : LwR a1 b0) (e41 : b0 123 41 = 0) (hT : ∀ t j, t < 8 → j < 96 → b0 124 (5 + 96 * t + j) = a1 92 (96 + 96 * t + j)) (hH : ∀ i, i < z → b0 128 (16 * f + i) = a1 92 (16 * f + i)) (h0 : b0 124 0 = a1 91 5) (h9 : ∀ j, j < 96 → ∃ v, v ≤ 9 ∧ a1 92 (192 + j) = nI v) : ∀ (q i m m' : Nat) (a b : Mem), (∀ c, c ≠ 13 → c ≠ 14 → c ≠ 92 → a c = a1 c) → (∀ k, ¬ (192 + 16 * f ≤ k ∧ k < 192 + 16 * f + i) → a 92 k = a1 92 k) → eqB b b0 → i + q = z → q < m → q < m' → ∃ (v : Int32) (a' b' : Mem), F_U_tellingStep_7 m (nI f) (nI A) (nI i) a = some (v, a') ∧ F_R_firstLoose_2 m' (nI f) (nI A) (nI i) b = some (v, b') ∧ (∀ c, c ≠ 13 → c ≠ 14 → c ≠ 92 → a' c = a1 c) ∧ eqB b' b0 := by
  intro q
  induction q with
  | zero =>
    intro i m m' a b ha hm92 hb hi hm hm'
    obtain ⟨m, rfl⟩ : ∃ k, m = k + 1 := ⟨m - 1, by omega⟩
    obtain ⟨m', rfl⟩ : ∃ k, m' = k + 1 := ⟨m' - 1, by omega⟩
    have es : F_H_size 91 (nI f) a = some (nI z, a) := by rw [H_size (c := 93) rfl rfl rfl rfl hf, ha 93 (by decide) (by decide) (by decide), ez]
    have lb : ld b 127 (nI f) = some (nI z) := (ld_in rfl (show f < 6 from hf) (by decide)).trans (by rw [hb 127 (by decide) (by decide), eb])
    have c : nI z ≤ nI i := nI_le (by omega) (by omega)
    refine ⟨-1, a, b, ?_, ?_, ha, hb⟩
    · simp only [F_U_tellingStep_7, es, Option.bind_some, if_pos c]
    · simp only [F_R_firstLoose_2, lb, Option.bind_some, if_pos c]
  | succ q ih =>
    intro i m m' a b ha hm92 hb hi hm hm'
    obtain ⟨m, rfl⟩ : ∃ k, m = k + 1 := ⟨m - 1, by omega⟩
    obtain ⟨m', rfl⟩ : ∃ k, m' = k + 1 := ⟨m' - 1, by omega⟩
    have es : F_H_size 91 (nI f) a = some (nI z, a) := by rw [H_size (c := 93) rfl rfl rfl rfl hf, ha 93 (by decide) (by decide) (by decide), ez]
    have lb : ld b 127 (nI f) = some (nI z) := (ld_in rfl (show f < 6 from hf) (by decide)).trans (by rw [hb 127 (by decide) (by decide), eb])
    have c : ¬ nI z ≤ nI i := nI_ge (by omega) (by omega)
    have i16 : i < 16 := by omega
    obtain ⟨v, v9, ev⟩ := h9 (16 * f + i) (by omega)
    have ea : a 92 (192 + (16 * f + i)) = nI v := by rw [hm92 _ (by omega), ev]
    obtain ⟨y, hy⟩ : ∃ y : Int32, y = if nI v + 1 ≤ 9 then nI v + 1 else 9 := ⟨_, rfl⟩
    have er : F_H_raiseTo 91 2 (nI f) (nI i) 1 9 a = some (0, mw a 92 (192 + (16 * f + i)) y) := by
      have := H_raiseTo (s := a) (t := 2) (by' := 1) (most := 9) (h0 := 91) (c := 92) rfl rfl rfl rfl (by decide) hf i16
      rw [show 96 * 2 + 16 * f + i = 192 + (16 * f + i) by omega, ea] at this
      refine this.trans ?_
      rw [hy]
      by_cases q9 : nI v + 1 ≤ 9
      · rw [if_pos q9, if_neg (show ¬ (9 : Int32) < nI v + 1 from by rw [fa_le] at q9; rw [fa_lt]; omega)]
      · rw [if_neg q9, if_pos (show (9 : Int32) < nI v + 1 from by rw [fa_le] at q9; rw [fa_lt]; omega)]
    obtain ⟨A1, hA1⟩ : ∃ A1, A1 = mw a 92 (192 + (16 * f + i)) y := ⟨_, rfl⟩
    obtain ⟨B1, hB1⟩ : ∃ B1, B1 = mw b 123 41 1 := ⟨_, rfl⟩
    have o1 : ∀ c, c ≠ 13 → c ≠ 14 → c ≠ 92 → A1 c = a1 c := fun c c1 c2 c3 => by rw [hA1, mw_o c3]; exact ha c c1 c2 c3
    have o2 : ∀ c, c ≠ 143 → c ≠ 144 → c ≠ 123 → B1 c = b0 c := fun c c1 c2 c3 => by rw [hB1, mw_o c3]; exact hb c c1 c2
    have o3 : ∀ k, k ≠ 41 → B1 123 k = b0 123 k := fun k hk => by rw [hB1, mw_n hk, hb 123 (by decide) (by decide)]
    have o92 : ∀ k, ¬ (192 + 16 * f ≤ k ∧ k < 192 + 16 * f + (i + 1)) → A1 92 k = a1 92 k := fun k hk => by
      rw [hA1, mw_n (by omega)]
      exact hm92 k (by omega)
    have hq : QA 91 n A1 B1 f i := by
      refine ⟨hf, i16, LwR_c (fun c c1 c2 => o1 c (by omega) (by omega) (by omega)) (fun c c1 c2 => o2 c (by omega) (by omega) (by omega)) hL, ⟨fun t t7 t1 => ?_, ?_, ?_⟩, ?_, VR_e hV (fun c c1 c2 => o1 c (by omega) (by omega) (by omega)) (o3 43 (by decide)) (o2 146 (by decide) (by decide) (by decide)) (o2 147 (by decide) (by decide) (by decide))⟩
      · rw [o2 124 (by decide) (by decide) (by decide), hT t _ (by omega) (by omega), show 96 * (t + 1) + 16 * f + i = 96 + 96 * t + (16 * f + i) by omega]
        exact (o92 _ (by omega)).symm
      · rw [o2 128 (by decide) (by decide) (by decide), hH i (by omega)]
        exact (o92 _ (by omega)).symm
      · rw [o2 124 (by decide) (by decide) (by decide), h0]
        exact congrFun (o1 91 (by decide) (by decide) (by decide)).symm 5
      · have h1 := hT 1 (16 * f + i) (by decide) (by omega)
        rw [show 5 + 96 * 1 + (16 * f + i) = 101 + (16 * f + i) by omega, show 96 + 96 * 1 + (16 * f + i) = 192 + (16 * f + i) by omega, ev] at h1
        have h2 : B1 123 41 = 1 := by rw [hB1, mw_y]
        have h3 : A1 92 (96 * 2 + 16 * f + i) = y := by rw [hA1, show 96 * 2 + 16 * f + i = 192 + (16 * f + i) by omega, mw_y]
        show _ = A1 92 (96 * 2 + 16 * f + i)
        rw [o2 124 (by decide) (by decide) (by decide), h1, h2, h3, hy]
    obtain ⟨a2, b2, z1, z2, z3⟩ := tel25 (k := F_U_tellingStep_7 m) (k' := F_R_firstLoose_2 m') hA hq n 0 gF gF 0 A1 B1 (eqA_rf A1) (eqB_rf B1) (fun t ht => by rw [Nat.zero_testBit] at ht; cases ht) (by omega) (by rw [gF_eq]; have := hV.1; omega) (by rw [gF_eq]; have := hV.1; omega)
    rw [pc_0] at z3
    have oa2 : ∀ c, c ≠ 13 → c ≠ 14 → c ≠ 92 → a2 c = a1 c := fun c c1 c2 c3 => by rw [z1 c c1 c2]; exact o1 c c1 c2 c3
    have oa3 : ∀ k, ¬ (192 + 16 * f ≤ k ∧ k < 192 + 16 * f + (i + 1)) → a2 92 k = a1 92 k := fun k hk => by
      rw [z1 92 (by decide) (by decide)]; exact o92 k hk
    have ob2 : eqB (mw b2 123 41 0) b0 := fun c c1 c2 => by
      by_cases q3 : c = 123
      · subst q3
        funext k
        by_cases q4 : k = 41
        · subst q4; rw [mw_y, e41]
        · rw [mw_n q4, z2 123 (by decide) (by decide)]; exact o3 k q4
      · rw [mw_o q3, z2 c c1 c2]; exact o2 c c1 c2 q3
    have s1 : F_U_tellingStep_7 (m + 1) (nI f) (nI A) (nI i) a = F_U_tellingStep_25 (F_U_tellingStep_7 m) gF (nI f) (nI A) (nI i) (nI 0) (nI 0) A1 := by
      rw [hA1, show nI 0 = 0 from rfl]
      simp only [F_U_tellingStep_7, es, Option.bind_some, if_neg c, er]
    have s2 : F_R_firstLoose_2 (m' + 1) (nI f) (nI A) (nI i) b = F_R_firstLoose_15 (F_R_firstLoose_2 m') gF (nI f) (nI A) (nI i) (nI 0) (nI 0) B1 := by
      rw [hB1, show nI 0 = 0 from rfl]
      simp only [F_R_firstLoose_2, lb, Option.bind_some, if_neg c]
    rw [s1, s2]
    rcases z3 with ⟨y1, y2⟩ | ⟨y1, y2⟩
    · obtain ⟨vv, a3, b3, x1, x2, x3, x4⟩ := ih (i + 1) m m' a2 (mw b2 123 41 0) oa2 oa3 ob2 (by omega) (by omega) (by omega)
      exact ⟨vv, a3, b3, y1.trans x1, y2.trans x2, x3, x4⟩
    · exact ⟨nI i, a2, mw b2 123 41 0, y1, y2, oa2, ob2⟩
theorem p_who (x y z : Int32) : Pair I2 I2 (F_C_who x y z) (F_R_who x y z) := by
  intro a b h
  obtain ⟨hz, hc, hm⟩ := I2_sz h
  have hm0 : mSz (mw b 123 0 0) (nF a) (sz a) := hm
  have fr0 : ∀ c, c < 123 → (mw b 123 0 0) c = b c := fun c hc => mw_o (by omega)
  have h0 : I2 a (mw b 123 0 0) := I2_0 h
  rcases C_has1 hz hc x with ⟨f, hf, rfl, hh⟩ | ⟨hno, hh⟩
  · rcases R_isF hz hm0 (nI f) with ⟨f', hf', hff, hmR⟩ | ⟨hno, -⟩
    · have f6 : f < 6 := by have := hz.1; omega
      obtain ⟨z1, z16⟩ := hz.2 f hf
      have ez : a 4 f = nI (sz a f) := hc.2 f hf
      have eb : (mw b 123 0 0) 127 f = nI (sz a f) := hm0.2 f hf
      have es : F_H_size 2 (nI f) a = some (nI (sz a f), a) := by rw [H_size (c := 4) rfl rfl rfl rfl f6, ez]
      have lb : ld (mw b 123 0 0) 127 (nI f) = some (nI (sz a f)) := (ld_in rfl (show f < 6 from f6) (by decide)).trans (congrArg some eb)
      have e2 : shl 1 (nI (sz a f)) = nI (2 ^ sz a f) := n_shl1 (by omega)
      have p16 : 2 ^ sz a f ≤ 65536 := Nat.pow_le_pow_right (n := 2) (by decide) z16
      by_cases hy : 0 ≤ y ∧ y ≤ nI (2 ^ sz a f) - 1
      · obtain ⟨g, g1, rfl⟩ := (rngF (n := 2 ^ sz a f) (by omega)).mp hy
        have c1 : ¬ nI g < 0 := nI_pos (show g < 2 ^ 31 by omega)
        have c2 : ¬ nI (2 ^ sz a f) ≤ nI g := nI_ge (by omega) (by omega)
        by_cases hzz : 0 ≤ z ∧ z ≤ 1
        · obtain ⟨k, k1, rfl⟩ := in_nI (m := 1) (by decide) hzz
          obtain ⟨b0, hb0⟩ : ∃ b0, b0 = mw b 123 0 0 := ⟨_, rfl⟩
          rw [← hb0] at h0 eb lb hmR
          obtain ⟨⟨hHS, hHM, -, hLw, -, -, -, hTR⟩, -, -, hMR⟩ := id h0
          have hHS : HS a b0 := hHS
          have hHM : HM a b0 := hHM
          have hLw : LwR a b0 := LwR_2 hLw
          obtain ⟨n, hV⟩ := VR_of hTR
          have hV : VR n a b0 := hV
          have e41 : b0 123 41 = 0 := hMR.2.2.2.2.1
          have hT : ∀ t j, t < 8 → j < 96 → b0 124 (5 + 96 * t + j) = a 3 (96 + 96 * t + j) := fun t j ht hj => by
            have := hHM.1 (96 * t + j) (by omega)
            rw [show 5 + 96 * t + j = 5 + (96 * t + j) by omega, this, show 96 + (96 * t + j) = 96 + 96 * t + j by omega]
          have hH : ∀ i, i < sz a f → b0 128 (16 * f + i) = a 3 (16 * f + i) := fun i hi => by
            obtain ⟨q, -, -, q1, q2⟩ := hHS.2.2.2.2 f i ⟨hf, hi⟩
            rw [q1, q2]
          have hq : ∀ i, i < sz a f → QA 2 n a b0 f i := fun i hi => by
            refine ⟨f6, by omega, hLw, ⟨fun t t7 _ => ?_, hH i hi, hHM.2.2.2.2.2.1⟩, ?_, hV⟩
            · rw [hT t _ (by omega) (by omega), show 96 * (t + 1) + 16 * f + i = 96 + 96 * t + (16 * f + i) by omega]
            · obtain ⟨⟨v, v1, v2⟩, -⟩ := hHM.2.2.1 (16 * f + i) (by omega)
              have v3 := hT 1 (16 * f + i) (by decide) (by omega)
              rw [show 5 + 96 * 1 + (16 * f + i) = 101 + (16 * f + i) by omega, show 96 + 96 * 1 + (16 * f + i) = 192 + (16 * f + i) by omega, v2] at v3
              rw [e41, v3, show 96 * 2 + 16 * f + i = 192 + (16 * f + i) by omega]
              show (if nI v + nI 0 ≤ 9 then nI v + nI 0 else 9) = a 3 (192 + (16 * f + i))
              rw [nI_add, Nat.add_zero, if_pos (show nI v ≤ 9 from nI_le (b := 9) v1 (by decide)), v2]
          obtain ⟨R, a1, b1, hR, y1, y2, y3, y4⟩ := fit4 (x3 := nI g) hV hq f6 z16 ez eb n 0 gF gF 0 a b0 (eqA_rf a) (eqB_rf b0) (by decide) (by omega) (by rw [gF_eq]; have := hV.1; omega) (by rw [gF_eq]; have := hV.1; omega)
          have y1 : F_U_fitting (nI f) (nI g) a = some (nI R, a1) := y1
          have y2 : F_R_fittingSet (nI f) (nI g) b0 = some (nI R, b1) := y2
          rcases (show k = 0 ∨ k = 1 by omega) with rfl | rfl
          · refine ⟨nI R, a1, b1, ?_, ?_, I2_th h0 (fun c c1 c2 _ _ _ => y3 c c1 c2) (fun c _ _ c3 c4 => y4 c c3 c4) (fun k _ => by rw [y4 124 (by decide) (by decide)]), fun c hc => y3 c (by omega) (by omega), fun c hc => ?_⟩
            · simp only [F_C_who, F_H_hasSet, hh, Option.bind_some, one0, if_false, if_neg c1, es, e2, if_neg c2, C_within, b01, hzz, and_self, not_true_eq_false, y1, show (nI 0 = 0) = True from by decide, if_true]
            · simp only [F_R_who, ← hb0, hmR, Option.bind_some, one0, if_false, lb, e2, R_isIn, b01, hy, hzz, and_self, not_true_eq_false, y2, show (nI 0 = 0) = True from by decide, if_true]
            · rw [y4 c (by omega) (by omega), hb0]; exact fr0 c hc
          · obtain ⟨a2, e1, d1, d2, d3, d4⟩ := H_copy (s := a1) (h0 := 91) (h1 := 2) (c0 := 92) (c1 := 3) (d0 := 93) (d1 := 4) rfl rfl rfl rfl rfl rfl rfl rfl rfl rfl rfl rfl rfl rfl (by decide) (by decide) (by decide) (by decide) (by decide) (by decide) (by decide)
            have b124 := y4 124 (by decide) (by decide)
            have a3e := y3 3 (by decide) (by decide)
            obtain ⟨v, a3, b3, x1, x2, x3, x4⟩ := tel7 (n := n) (f := f) (z := sz a f) (A := R) (a1 := a2) (b0 := b1) hR f6 z16 (by rw [d3 f f6, y3 4 (by decide) (by decide)]; exact ez) (by rw [y4 127 (by decide) (by decide)]; exact eb) (VR_e hV (fun c c1 c2 => (d1 c (by omega) (by omega) (by omega)).trans (y3 c (by omega) (by omega))) (by rw [y4 123 (by decide) (by decide)]) (y4 146 (by decide) (by decide)) (y4 147 (by decide) (by decide))) (LwR_c (fun c c1 c2 => (d1 c (by omega) (by omega) (by omega)).trans (y3 c (by omega) (by omega))) (fun c c1 c2 => y4 c (by omega) (by omega)) hLw) (by rw [y4 123 (by decide) (by decide)]; exact e41) (fun t j ht hj => by rw [b124, d2 _ (by omega), a3e]; exact hT t j ht hj) (fun i hi => by rw [y4 128 (by decide) (by decide), d2 _ (by omega), a3e]; exact hH i hi) (by rw [b124, d4 5 (by decide) (by decide), y3 2 (by decide) (by decide)]; exact hHM.2.2.2.2.2.1) (fun j hj => by rw [d2 _ (by omega), a3e]; exact (hHM.2.2.1 j hj).1) (sz a f) 0 gF gF a2 b1 (fun _ _ _ _ => rfl) (fun _ _ => rfl) (eqB_rf b1) (by omega) (by rw [gF_eq]; omega) (by rw [gF_eq]; omega)
            have x1 : F_U_tellingStep_7 gF (nI f) (nI R) 0 a2 = some (v, a3) := x1
            have x2 : F_R_firstLoose (nI f) (nI R) b1 = some (v, b3) := x2
            have oa : ∀ c, c ≠ 13 → c ≠ 14 → c ≠ 91 → c ≠ 92 → c ≠ 93 → a3 c = a c := fun c c1 c2 c3 c4 c5 => by
              rw [x3 c c1 c2 c4, d1 c c3 c4 c5]; exact y3 c c1 c2
            have ob : eqB b3 b0 := eqB_tr x4 y4
            refine ⟨v, a3, b3, ?_, ?_, I2_th h0 oa (fun c _ _ c3 c4 => ob c c3 c4) (fun k _ => by rw [ob 124 (by decide) (by decide)]), fun c hc => oa c (by omega) (by omega) (by omega) (by omega) (by omega), fun c hc => ?_⟩
            · simp only [F_C_who, F_H_hasSet, hh, Option.bind_some, one0, if_false, if_neg c1, es, e2, if_neg c2, C_within, b01, hzz, and_self, not_true_eq_false, y1, show (nI 1 = 0) = False from by decide, F_U_tellingStep, e1, x1]
            · simp only [F_R_who, ← hb0, hmR, Option.bind_some, one0, if_false, lb, e2, R_isIn, b01, hy, hzz, and_self, not_true_eq_false, y2, show (nI 1 = 0) = False from by decide, x2]
            · rw [ob c (by omega) (by omega), hb0]; exact fr0 c hc
        · refine ⟨-1, a, mw b 123 0 0, ?_, ?_, h0, fun _ _ => rfl, fr0⟩
          · simp only [F_C_who, F_H_hasSet, hh, Option.bind_some, one0, if_false, if_neg c1, es, e2, if_neg c2, C_within, b01, hzz, not_false_eq_true, if_true]
          · simp only [F_R_who, hmR, Option.bind_some, one0, if_false, lb, e2, R_isIn, b01, hy, hzz, and_self, not_true_eq_false, not_false_eq_true, if_true]
      · refine ⟨-1, a, mw b 123 0 0, ?_, ?_, h0, fun _ _ => rfl, fr0⟩
        · by_cases c1 : y < 0
          · simp only [F_C_who, F_H_hasSet, hh, Option.bind_some, one0, if_false, if_pos c1, if_true]
          · obtain ⟨j, hj, rfl⟩ := nI_of c1
            have c2 : nI (2 ^ sz a f) ≤ nI j := by
              refine nI_le ?_ hj
              rcases Nat.lt_or_ge j (2 ^ sz a f) with q | q
              · exact absurd ((rngF (n := 2 ^ sz a f) (by omega)).mpr ⟨j, q, rfl⟩) hy
              · exact q
            simp only [F_C_who, F_H_hasSet, hh, Option.bind_some, one0, if_false, if_neg c1, es, e2, if_pos c2, if_true]
        · simp only [F_R_who, hmR, Option.bind_some, one0, if_false, lb, e2, R_isIn, b01, hy, not_false_eq_true, if_true]
    · exact absurd rfl (hno f hf)
  · rcases R_isF hz hm0 x with ⟨f', hf', hff, -⟩ | ⟨-, hmR⟩
    · exact absurd hff (hno f' hf')
    · refine ⟨-1, a, mw b 123 0 0, ?_, ?_, h0, fun _ _ => rfl, fr0⟩
      · simp only [F_C_who, F_H_hasSet, hh, Option.bind_some, if_true]
      · simp only [F_R_who, hmR, Option.bind_some, if_true]
theorem g_who (x y z : Int32) : Good Inv (F_C_who x y z) (F_R_who x y z) := good_of (p_who x y z)
