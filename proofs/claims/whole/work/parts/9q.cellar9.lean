/-! ===== cellar: the call ===== -/
theorem I2_rel {a b a' b' : Mem} (h : I2 a b) (ha : ∀ c k, rel c k = true → a' c k = a c k) (hb : ∀ c k, rel c k = true → b' c k = b c k) : I2 a' b' := by
  have e1 : prj a' = prj a := eqR_of ha
  have e2 : prj b' = prj b := eqR_of hb
  show J2 (prj a') (prj b')
  rw [e1, e2]
  exact h
theorem I2_ce {a b a' b' : Mem} (h : I2 a b) (ha : ∀ c, c ≠ 103 → c ≠ 104 → a' c = a c) (hb : ∀ c, c ≠ 160 → c ≠ 161 → b' c = b c) : I2 a' b' := by
  refine I2_rel h (fun c k hr => ?_) (fun c k hr => ?_)
  · by_cases c1 : c = 103
    · subst c1; exact absurd hr (show ¬ false = true from Bool.false_ne_true)
    · by_cases c2 : c = 104
      · subst c2; exact absurd hr (show ¬ false = true from Bool.false_ne_true)
      · rw [ha c c1 c2]
  · by_cases c1 : c = 160
    · subst c1; exact absurd hr (show ¬ false = true from Bool.false_ne_true)
    · by_cases c2 : c = 161
      · subst c2; exact absurd hr (show ¬ false = true from Bool.false_ne_true)
      · rw [hb c c1 c2]
theorem nd7 {n : Nat} {x2 : Int32} (hn : n ≤ 10) : ∀ (q j m : Nat) (a : Mem), j + q = n → q < m → F_D_nextDigit_7 m x2 (nI n) (nI j) a = F_D_nextDigit_7 1 x2 (nI n) (nI n) (rp a 103 (fun i => if j ≤ i ∧ i < n then a 35 i else a 103 i)) := by
  intro q
  induction q with
  | zero =>
    intro j m a hj hm
    obtain ⟨m, rfl⟩ : ∃ m', m = m' + 1 := ⟨m - 1, by omega⟩
    have : j = n := by omega
    subst this
    have e : rp a 103 (fun i => if j ≤ i ∧ i < j then a 35 i else a 103 i) = a := by
      have : (fun i => if j ≤ i ∧ i < j then a 35 i else a 103 i) = a 103 := by
        funext i
        exact if_neg (by omega)
      rw [this, rp_id]
    rw [e]
    have g : nI j ≤ nI j := nI_le (Nat.le_refl j) (by omega)
    rw [F_D_nextDigit_7, F_D_nextDigit_7, if_pos g, if_pos g]
  | succ q ih =>
    intro j m a hj hm
    obtain ⟨m, rfl⟩ : ∃ m', m = m' + 1 := ⟨m - 1, by omega⟩
    have wa : F_W_at 34 (nI j) a = some (a 35 j, a) := W_at (o := 34) (c := 35) (len := 10) rfl rfl rfl rfl (by decide) a (show j < 10 by omega)
    have wr : sd a 103 (nI j) (a 35 j) = some (mw a 103 j (a 35 j)) := sd_in rfl (show j < 10 by omega) (by decide)
    have e1 := ih (j + 1) m (mw a 103 j (a 35 j)) (by omega) (by omega)
    have e2 : rp (mw a 103 j (a 35 j)) 103 (fun i => if j + 1 ≤ i ∧ i < n then (mw a 103 j (a 35 j)) 35 i else (mw a 103 j (a 35 j)) 103 i) = rp a 103 (fun i => if j ≤ i ∧ i < n then a 35 i else a 103 i) := by
      rw [mw_rp, rp_rp]
      congr 1
      funext i
      by_cases c : i = j
      · subst c
        rw [if_neg (by omega), if_pos ⟨Nat.le_refl i, by omega⟩, rp_at]
        exact if_pos rfl
      · rw [rp_at]
        by_cases c2 : j + 1 ≤ i ∧ i < n
        · rw [if_pos c2, if_pos ⟨by omega, c2.2⟩]
          rfl
        · rw [if_neg c2, if_neg (by omega)]
          exact if_neg c
    rw [F_D_nextDigit_7, if_neg (show ¬ nI n ≤ nI j from nI_ge (by omega) (by omega))]
    simp only [wa, Option.bind_some, wr, nI_1]
    rw [e1, e2]
theorem p_cellar (x : Int32) : Pair I2 I2 (F_C_cellar x) (F_R_cellar x) := by
  intro a b h
  have fr0 : ∀ c, c < 123 → (mw b 123 0 0) c = b c := fun c hc => mw_o (by omega)
  have h0 : I2 a (mw b 123 0 0) := I2_0 h
  obtain ⟨b0, hb0⟩ : ∃ b0, b0 = mw b 123 0 0 := ⟨_, rfl⟩
  rw [← hb0] at h0 fr0
  obtain ⟨n, n1, n2, n3, n4, n5⟩ : ∃ n, n ≤ 10 ∧ a 34 1 = nI n ∧ b0 123 64 = nI n ∧ (∀ k, k < 10 → b0 159 k = a 35 k) ∧ ∀ k, k < n → inN 0 9 (a 35 k) := by
    obtain ⟨⟨-, -, -, -, -, -, -, -, -, -, -, -, -, hR, -⟩, -⟩ := id h0
    exact hR
  obtain ⟨d, d1, d2, d3⟩ : ∃ d : Nat → Nat, (∀ j, j < n → d j ≤ 9) ∧ (∀ j, j < n → a 35 j = nI (d j)) ∧ ∀ j, j < n → b0 159 j = nI (d j) := by
    have hh : ∀ j, j < n → (a 35 j).toNatClampNeg ≤ 9 ∧ a 35 j = nI (a 35 j).toNatClampNeg := fun j hj => by
      obtain ⟨v, -, v1, v2⟩ := n5 j hj
      rw [v2, nI_clamp (by omega)]
      exact ⟨v1, rfl⟩
    exact ⟨fun j => (a 35 j).toNatClampNeg, fun j hj => (hh j hj).1, fun j hj => (hh j hj).2, fun j hj => (n4 j (by omega)).trans (hh j hj).2⟩
  have fin : ∀ (v : Int32) (a' b' : Mem), F_C_cellar x a = some (v, a') → F_R_cellar x b = some (v, b') → (∀ c, c ≠ 103 → c ≠ 104 → a' c = a c) → (∀ c, c ≠ 160 → c ≠ 161 → b' c = b0 c) → ∃ (v : Int32) (a' b' : Mem), F_C_cellar x a = some (v, a') ∧ F_R_cellar x b = some (v, b') ∧ I2 a' b' ∧ (∀ c, ¬ c < 123 → a' c = a c) ∧ ∀ c, c < 123 → b' c = b c := fun v a' b' z1 z2 z3 z4 => ⟨v, a', b', z1, z2, I2_ce h0 z3 z4, fun c hc => z3 c (by omega) (by omega), fun c hc => (z4 c (by omega) (by omega)).trans (fr0 c hc)⟩
  by_cases c10 : x = 10
  · subst c10
    obtain ⟨a1, z1, z2, z3⟩ := cd_p n1 d1 n2 d2
    obtain ⟨b1, y1, y2, y3⟩ := cf_p (lo := 0) n1 (Nat.zero_le n) d1 n3 d3
    have y1 : F_R_countsFrom 0 b0 = some (0, b1) := y1
    have hct : CT (cg d 0 n) a1 b1 := fun k hk => ⟨Nat.le_trans (cg_le d 0 k n) n1, z2 k hk, y2 k hk⟩
    obtain ⟨v, v1, v2⟩ := ar_p hct
    refine fin v a1 b1 ?_ ?_ (fun c _ hc => z3 c hc) (fun c _ hc => y3 c hc)
    · simp only [F_C_cellar, if_true, F_D_countRows, z1, v1, Option.bind_some]
    · simp only [F_R_cellar, show ((10 : Int32) = 11) = False from by decide, if_false, if_true, ← hb0, y1, v2, Option.bind_some]
  · by_cases c11 : x = 11
    · subst c11
      obtain ⟨a1, z1, z2, z3⟩ := cd_p n1 d1 n2 d2
      obtain ⟨v, a2, b2, v1, v2, v3, v4⟩ := ra7 n1 d1 n 0 gF gF 0 a1 b0 (Nat.zero_add n) (by rw [gF_eq]; omega) (by rw [gF_eq]; omega) (by rw [z3 34 (by decide)]; exact n2) (by rw [z3 35 (by decide)]; exact d2) n3 d3 z2
      have v1 : F_D_rankOfRow_7 gF 0 0 a1 = some (v, a2) := v1
      have v2 : F_R_rowNumber_4 gF 0 0 b0 = some (v, b2) := v2
      refine fin v a2 b2 ?_ ?_ (fun c _ hc => (v3 c hc).trans (z3 c hc)) (fun c _ hc => v4 c hc)
      · simp only [F_C_cellar, show ((11 : Int32) = 10) = False from by decide, if_false, if_true, F_D_rankOfRow, z1, v1, Option.bind_some]
      · simp only [F_R_cellar, if_true, ← hb0, F_R_rowNumber, v2, Option.bind_some]
    · have hR : F_R_cellar x b = (F_R_isIn x 0 ((b0 123 64) - 1) b0).bind fun z5 => if z5.1 = 0 then some ((-1), z5.2) else (F_R_findsNext z5.2).bind fun z6 => if z6.1 = 0 then some ((-1), z6.2) else (ld z6.2 160 x).bind fun v7 => some (v7, z6.2) := by
        simp only [F_R_cellar, if_neg c10, if_neg c11, ← hb0]
      have hC : F_C_cellar x a = (F_C_within x 0 9 a).bind fun z3 => if z3.1 = 0 then some ((-1), z3.2) else (F_D_nextDigit x z3.2).bind fun z4 => some (z4.1, z4.2) := by
        simp only [F_C_cellar, if_neg c10, if_neg c11]
      rw [n3] at hR
      by_cases hx : 0 ≤ x ∧ x ≤ nI n - 1
      · obtain ⟨k, k1, rfl⟩ := (rngF (by omega)).mp hx
        have hx9 : 0 ≤ nI k ∧ nI k ≤ 9 := ⟨hx.1, nI_le (b := 9) (by omega) (by decide)⟩
        obtain ⟨a1, ha1⟩ : ∃ a1, a1 = rp a 103 (fun i => if 0 ≤ i ∧ i < n then a 35 i else a 103 i) := ⟨_, rfl⟩
        have e1 : F_D_nextDigit (nI k) a = F_D_nextDigit_7 1 (nI k) (nI n) (nI n) a1 := by
          have mn : F_JM_min (a 34 1) 10 a = some (nI n, a) := by
            rw [C_min, n2, if_neg (show ¬ (10 : Int32) < nI n from nI_nlt (a := 10) (by omega) (by decide))]
          simp only [F_D_nextDigit, mn, Option.bind_some]
          rw [ha1]
          exact nd7 n1 n 0 gF a (Nat.zero_add n) (by rw [gF_eq]; omega)
        have hD : DG n d a1 b0 := by
          refine ⟨fun j hj => ⟨?_, d3 j hj, d1 j hj⟩, n3⟩
          rw [ha1, rp_at]
          exact (if_pos ⟨Nat.zero_le j, hj⟩).trans (d2 j hj)
        have f1 : ∀ c, c ≠ 103 → a1 c = a c := fun c hc => by rw [ha1]; exact rp_o hc
        obtain ⟨v, a2, b2, v1, v2, v3, v4, v5, v6⟩ := nx_p n1 hD
        have gn : nI n ≤ nI n := nI_le (Nat.le_refl n) (by omega)
        rcases v1 with e | e
        · subst e
          refine fin (-1) a2 b2 ?_ ?_ (fun c hc _ => (v5 c hc).trans (f1 c hc)) (fun c hc _ => v6 c hc)
          · rw [hC]
            simp only [C_within, Option.bind_some, b01, hx9, and_self, not_true_eq_false, if_false, one0, e1, F_D_nextDigit_7, if_pos gn, hx, v2, if_true]
          · rw [hR]
            simp only [R_isIn, Option.bind_some, b01, hx, and_self, not_true_eq_false, if_false, one0, v3, if_true]
        · subst e
          have l1 : ld a2 103 (nI k) = some (a2 103 k) := ld_in rfl (show k < 10 by omega) (by decide)
          have l2 : ld b2 160 (nI k) = some (a2 103 k) := (ld_in rfl (show k < ln 160 from Nat.lt_of_lt_of_le (show k < 10 by omega) (by decide)) (by decide)).trans (congrArg some (v4 rfl k k1))
          refine fin (a2 103 k) a2 b2 ?_ ?_ (fun c hc _ => (v5 c hc).trans (f1 c hc)) (fun c hc _ => v6 c hc)
          · rw [hC]
            simp only [C_within, Option.bind_some, b01, hx9, and_self, not_true_eq_false, if_false, one0, e1, F_D_nextDigit_7, if_pos gn, hx, v2, l1]
          · rw [hR]
            simp only [R_isIn, Option.bind_some, b01, hx, and_self, not_true_eq_false, if_false, one0, v3, l2]
      · have eR : F_R_cellar x b = some (-1, b0) := by
          rw [hR]
          simp only [R_isIn, Option.bind_some, b01, hx, not_false_eq_true, if_true]
        by_cases hx9 : 0 ≤ x ∧ x ≤ 9
        · have e1 : F_D_nextDigit x a = F_D_nextDigit_7 1 x (nI n) (nI n) (rp a 103 (fun i => if 0 ≤ i ∧ i < n then a 35 i else a 103 i)) := by
            have mn : F_JM_min (a 34 1) 10 a = some (nI n, a) := by
              rw [C_min, n2, if_neg (show ¬ (10 : Int32) < nI n from nI_nlt (a := 10) (by omega) (by decide))]
            simp only [F_D_nextDigit, mn, Option.bind_some]
            exact nd7 n1 n 0 gF a (Nat.zero_add n) (by rw [gF_eq]; omega)
          have gn : nI n ≤ nI n := nI_le (Nat.le_refl n) (by omega)
          refine fin (-1) (rp a 103 (fun i => if 0 ≤ i ∧ i < n then a 35 i else a 103 i)) b0 ?_ eR (fun c hc _ => rp_o hc) (fun _ _ _ => rfl)
          rw [hC]
          have hx' : (x ≤ nI n - 1) = False := eq_false (fun q => hx ⟨hx9.1, q⟩)
          simp only [C_within, Option.bind_some, b01, hx9, and_self, not_true_eq_false, if_false, one0, e1, F_D_nextDigit_7, if_pos gn, hx', and_false, not_false_eq_true, if_true]
        · refine fin (-1) a b0 ?_ eR (fun _ _ _ => rfl) (fun _ _ _ => rfl)
          rw [hC]
          simp only [C_within, Option.bind_some, b01, hx9, not_false_eq_true, if_true]
theorem g_cellar (x : Int32) : Good Inv (F_C_cellar x) (F_R_cellar x) := good_of (p_cellar x)
