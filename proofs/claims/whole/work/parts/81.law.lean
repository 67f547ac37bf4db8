/-! ===== the law's code, run ===== -/
def stk (f : Nat → Int32) : Nat → List Int32
  | 0 => []
  | k + 1 => f k :: stk f k
theorem stk_len (f : Nat → Int32) : ∀ n, (stk f n).length = n
  | 0 => rfl
  | n + 1 => by simp [stk, stk_len f n]
theorem stk_up {f : Nat → Int32} {k : Nat} {v : Int32} : ∀ n, n ≤ k → stk (up f k v) n = stk f n
  | 0, _ => rfl
  | n + 1, h => by
    simp only [stk, stk_up (f := f) (k := k) (v := v) n (by omega)]
    rw [show up f k v n = f n from if_neg (by omega)]
theorem stk_push (f : Nat → Int32) (k : Nat) (v : Int32) : stk (up f k v) (k + 1) = v :: stk f k := by
  simp only [stk, stk_up k (Nat.le_refl k)]
  rw [show up f k v k = v from if_pos rfl]
theorem L_comb (act x y : Int32) (s : Mem) : F_L_combine act x y s = some (cmb act x y, s) := by
  unfold F_L_combine cmb
  by_cases h2 : act = 2
  · simp only [if_pos h2]
  simp only [if_neg h2]
  by_cases h3 : act = 3
  · simp only [if_pos h3]
  simp only [if_neg h3]
  by_cases h4 : act = 4
  · simp only [if_pos h4]
  simp only [if_neg h4]
  by_cases h5 : act = 5
  · rw [h5]
    simp only [if_true]
    rfl
  simp only [if_neg h5]
  by_cases h6 : act = 6
  · simp only [if_pos h6]
    by_cases c : y ≤ x
    · rw [if_pos c, if_neg (by rw [fa_le] at c; rw [fa_lt]; omega)]
    · rw [if_neg c, if_pos (by rw [fa_le] at c; rw [fa_lt]; omega)]
  simp only [if_neg h6]
  by_cases h7 : act = 7
  · simp only [if_pos h7]
    by_cases c : x = y
    · rw [if_pos c, if_pos c]
    · rw [if_neg c, if_neg c]
  simp only [if_neg h7]
  by_cases h8 : act = 8
  · simp only [if_pos h8]
    by_cases c : x ≤ y
    · rw [if_pos c, if_neg (by rw [fa_le] at c; rw [fa_lt]; omega)]
    · rw [if_neg c, if_pos (by rw [fa_le] at c; rw [fa_lt]; omega)]
  simp only [if_neg h8]
  by_cases h9 : act = 9
  · rw [h9]
    simp only [if_true]
    rfl
  simp only [if_neg h9]
  by_cases h10 : act = 10
  · simp only [if_pos h10]
  simp only [if_neg h10]
theorem R_two (op x y : Int32) (s : Mem) : F_R_twoOf op x y s = (twoO op x y).map fun v => (v, s) := by
  unfold F_R_twoOf twoO
  by_cases h2 : op = 2
  · simp only [if_pos h2, Option.map_some]
  simp only [if_neg h2]
  by_cases h3 : op = 3
  · simp only [if_pos h3, Option.map_some]
  simp only [if_neg h3]
  by_cases h4 : op = 4
  · simp only [if_pos h4, Option.map_some]
  simp only [if_neg h4]
  by_cases h5 : op = 5
  · simp only [if_pos h5]
    by_cases c : y = 0
    · rw [if_pos c, if_pos c]; rfl
    · rw [if_neg c, if_neg c]; rfl
  simp only [if_neg h5]
  by_cases h6 : op = 6
  · simp only [if_pos h6, Option.map_some]
    by_cases c : y ≤ x
    · rw [if_pos c, if_neg (by rw [fa_le] at c; rw [fa_lt]; omega)]
    · rw [if_neg c, if_pos (by rw [fa_le] at c; rw [fa_lt]; omega)]
  simp only [if_neg h6]
  by_cases h7 : op = 7
  · simp only [if_pos h7, Option.map_some]
    by_cases c : x = y
    · rw [if_pos c, if_pos c]
    · rw [if_neg c, if_neg c]
  simp only [if_neg h7]
  by_cases h8 : op = 8
  · simp only [if_pos h8, Option.map_some]
    by_cases c : x ≤ y
    · rw [if_pos c, if_neg (by rw [fa_le] at c; rw [fa_lt]; omega)]
    · rw [if_neg c, if_pos (by rw [fa_le] at c; rw [fa_lt]; omega)]
  simp only [if_neg h8]
  by_cases h10 : op = 10
  · simp only [if_pos h10, Option.map_some]
  simp only [if_neg h10, Option.map_some]
  by_cases c : x + y ≤ 0
  · rw [if_pos c, if_neg (by rw [fa_le] at c; rw [fa_lt]; omega)]
  · rw [if_neg c, if_pos (by rw [fa_le] at c; rw [fa_lt]; omega)]
theorem rp14 (s : Mem) (k : Nat) (v : Int32) : mw s 14 k v = rp s 14 (up (s 14) k v) := rfl
theorem lrun {to : Nat} (hto : to ≤ 400) {v : Int32} : ∀ (q i top m : Nat) (s : Mem), i + q = to → q < m → top ≤ 32 → exC (s 8) (s 13) q i (stk (s 14) top) = some [v] → ∃ g, F_L_run_6 m (nI to) (nI top) (nI i) s = some (v, rp s 14 g) := by
  intro q
  induction q with
  | zero =>
    intro i top m s hi hm ht he
    obtain ⟨m, rfl⟩ : ∃ m', m = m' + 1 := ⟨m - 1, by omega⟩
    have hi : i = to := by omega
    subst hi
    simp only [exC, Option.some.injEq] at he
    have hl := stk_len (s 14) top
    rw [he] at hl
    have ht1 : top = 1 := hl.symm
    subst ht1
    have hv : s 14 0 = v := by
      simp only [stk, List.cons.injEq, and_true] at he
      exact he
    refine ⟨s 14, ?_⟩
    have l0 : ld s 14 0 = some (s 14 0) := ld_in (k := 0) rfl (by decide) (by decide)
    simp only [F_L_run_6, if_pos (nI_le (Nat.le_refl i) (show i < 2 ^ 31 by omega)), if_neg (show ¬ nI 1 ≤ 0 by decide), l0, Option.bind_some, hv, rp_id]
  | succ q ih =>
    intro i top m s hi hm ht he
    obtain ⟨m, rfl⟩ : ∃ m', m = m' + 1 := ⟨m - 1, by omega⟩
    have l8 : ld s 8 (nI i) = some (s 8 i) := ld_in rfl (show i < 400 by omega) (by decide)
    have n1 : ¬ nI to ≤ nI i := nI_ge (by omega) (by omega)
    have n2 : ¬ (400 : Int32) ≤ nI i := nI_ge (b := 400) (by omega) (by decide)
    have hl := stk_len (s 14) top
    simp only [exC] at he
    obtain ⟨st1, hst, he⟩ := Option.bind_eq_some_iff.mp he
    have go : ∀ (k : Nat) (w : Int32) (top' : Nat), top' ≤ 32 → stk (up (s 14) k w) top' = st1 → ∃ g, F_L_run_6 m (nI to) (nI top') (nI (i + 1)) (mw s 14 k w) = some (v, rp s 14 g) := by
      intro k w top' h1 h2
      obtain ⟨g, hg⟩ := ih (i + 1) top' m (mw s 14 k w) (by omega) (by omega) h1 (by
        show exC (s 8) (s 13) q (i + 1) (stk (up (s 14) k w) top') = some [v]
        rw [h2]
        exact he)
      refine ⟨g, ?_⟩
      rw [hg, rp14, rp_rp]
    unfold stC at hst
    by_cases h0 : s 8 i &&& 15 = 0
    · rw [if_pos h0] at hst
      by_cases hlen : (stk (s 14) top).length < 32
      · rw [if_pos hlen] at hst
        cases hst
        obtain ⟨g, hg⟩ := go top (shr (s 8 i) 4) (top + 1) (by omega) (stk_push _ _ _)
        refine ⟨g, ?_⟩
        simp only [F_L_run_6, if_neg n1, if_neg n2, l8, Option.bind_some, h0, if_true, c01, if_false, if_neg (show ¬ (32 : Int32) ≤ nI top from nI_ge (b := 32) (by omega) (by decide)), nI_1]
        rw [sd_in (c := 14) rfl (show top < 32 by omega) (by decide)]
        exact hg
      · rw [if_neg hlen] at hst
        cases hst
    · rw [if_neg h0] at hst
      by_cases h1 : s 8 i &&& 15 = 1
      · rw [if_pos h1] at hst
        by_cases hc : (stk (s 14) top).length < 32 ∧ 0 ≤ shr (s 8 i) 4 ∧ shr (s 8 i) 4 < 11
        · rw [if_pos hc] at hst
          cases hst
          obtain ⟨g, hg⟩ := go top (s 13 (shr (s 8 i) 4).toNatClampNeg) (top + 1) (by omega) (stk_push _ _ _)
          refine ⟨g, ?_⟩
          have x1 : ¬ shr (s 8 i) 4 < 0 := by
            have := hc.2.1
            rw [fa_le] at this
            rw [fa_lt]
            omega
          have x2 : ¬ (11 : Int32) ≤ shr (s 8 i) 4 := by
            have := hc.2.2
            rw [fa_lt] at this
            rw [fa_le]
            omega
          obtain ⟨j, hj, ej⟩ := nI_of x1
          have hj11 : j < 11 := by
            have := hc.2.2
            rw [ej, show (11 : Int32) = nI 11 from rfl, nI_ltI hj (by decide)] at this
            exact this
          have l13 : ld s 13 (shr (s 8 i) 4) = some (s 13 (shr (s 8 i) 4).toNatClampNeg) := by
            rw [ej, nI_clamp hj]
            exact ld_in rfl (show j < 11 from hj11) (by decide)
          simp only [F_L_run_6, if_neg n1, if_neg n2, l8, Option.bind_some, h1, one0, if_true, if_false, if_neg (show ¬ (32 : Int32) ≤ nI top from nI_ge (b := 32) (by omega) (by decide)), if_neg x1, if_neg x2, l13, nI_1]
          rw [sd_in (c := 14) rfl (show top < 32 by omega) (by decide)]
          exact hg
        · rw [if_neg hc] at hst
          cases hst
      · rw [if_neg h1] at hst
        by_cases h9 : s 8 i &&& 15 = 9
        · rw [if_pos h9] at hst
          match top, ht, hl, hst, go with
          | 0, _, _, hst, _ => cases hst
          | k + 1, ht, hl, hst, go =>
            have hst : some ((1 - s 14 k) :: stk (s 14) k) = some st1 := hst
            cases hst
            obtain ⟨g, hg⟩ := go k (1 - s 14 k) (k + 1) ht (stk_push _ _ _)
            refine ⟨g, ?_⟩
            have l14 : ld s 14 (nI k) = some (s 14 k) := ld_in rfl (show k < 32 by omega) (by decide)
            simp only [F_L_run_6, if_neg n1, if_neg n2, l8, Option.bind_some, h9, show ((9 : Int32) = 0) = False from by decide, show ((9 : Int32) = 1) = False from by decide, if_true, if_false, if_neg (nI_nle (show 0 < k + 1 by omega) (show k + 1 < 2 ^ 31 by omega)), nI_pred, l14, nI_1]
            rw [sd_in (c := 14) rfl (show k < 32 by omega) (by decide)]
            exact hg
        · rw [if_neg h9] at hst
          by_cases h5 : s 8 i &&& 15 = 5
          · rw [if_pos h5] at hst
            match top, ht, hl, hst, go with
            | 0, _, _, hst, _ => cases hst
            | k + 1, ht, hl, hst, go =>
              have hst : (if 0 < shr (s 8 i) 4 then some (s 14 k / shr (s 8 i) 4 :: stk (s 14) k) else none) = some st1 := hst
              by_cases hp : 0 < shr (s 8 i) 4
              · rw [if_pos hp] at hst
                cases hst
                obtain ⟨g, hg⟩ := go k (s 14 k / shr (s 8 i) 4) (k + 1) ht (stk_push _ _ _)
                refine ⟨g, ?_⟩
                have l14 : ld s 14 (nI k) = some (s 14 k) := ld_in rfl (show k < 32 by omega) (by decide)
                have hq1 : ¬ shr (s 8 i) 4 ≤ 0 := by
                  rw [fa_lt] at hp
                  rw [fa_le]
                  omega
                have hq2 : ¬ shr (s 8 i) 4 = 0 := fun z => hq1 (by rw [z]; decide)
                have hpart : F_L_part (s 14 k) (shr (s 8 i) 4) s = some (s 14 k / shr (s 8 i) 4, s) := by
                  simp only [F_L_part, if_neg hq1, if_neg hq2]
                simp only [F_L_run_6, if_neg n1, if_neg n2, l8, Option.bind_some, h5, show ((5 : Int32) = 0) = False from by decide, show ((5 : Int32) = 1) = False from by decide, show ((5 : Int32) = 9) = False from by decide, if_true, if_false, if_neg (nI_nle (show 0 < k + 1 by omega) (show k + 1 < 2 ^ 31 by omega)), nI_pred, l14, hpart, nI_1]
                rw [sd_in (c := 14) rfl (show k < 32 by omega) (by decide)]
                exact hg
              · rw [if_neg hp] at hst
                cases hst
          · rw [if_neg h5] at hst
            match top, ht, hl, hst, go with
            | 0, _, _, hst, _ => cases hst
            | 1, _, _, hst, _ => cases hst
            | k + 2, ht, hl, hst, go =>
              have hst : some (cmb (s 8 i &&& 15) (s 14 k) (s 14 (k + 1)) :: stk (s 14) k) = some st1 := hst
              cases hst
              obtain ⟨g, hg⟩ := go k (cmb (s 8 i &&& 15) (s 14 k) (s 14 (k + 1))) (k + 1) (by omega) (stk_push _ _ _)
              refine ⟨g, ?_⟩
              have l14 : ld s 14 (nI k) = some (s 14 k) := ld_in rfl (show k < 32 by omega) (by decide)
              have l15 : ld s 14 (nI (k + 1)) = some (s 14 (k + 1)) := ld_in rfl (show k + 1 < 32 by omega) (by decide)
              have e1 : nI (k + 2) + (-1) = nI (k + 1) := by rw [m1_add]; exact nI_pred (k + 1)
              have e2 : ¬ nI (k + 2) ≤ 1 := nI_ge (a := 1) (by omega) (by omega)
              simp only [F_L_run_6, if_neg n1, if_neg n2, l8, Option.bind_some, if_neg h0, if_neg h1, if_neg h9, if_neg h5, if_neg e2, e1, nI_pred, l14, l15, L_comb, nI_1]
              rw [sd_in (c := 14) rfl (show k < 32 by omega) (by decide)]
              exact hg
theorem L_run {s : Mem} {p q : Nat} {v : Int32} (hq : q ≤ 400) (hpq : p ≤ q) (h : exC (s 8) (s 13) (q - p) p [] = some [v]) : ∃ g, F_L_run (nI p) (nI q) s = some (v, rp s 14 g) := by
  obtain ⟨g, hg⟩ := lrun hq (q - p) p 0 gF s (by omega) (by rw [gF_eq]; omega) (by decide) h
  refine ⟨g, ?_⟩
  unfold F_L_run
  rw [C_max, if_neg (nI_pos (show p < 2 ^ 31 by omega))]
  exact hg
theorem mrun {to : Nat} (hto : to ≤ 400) {v : Int32} : ∀ (q i top m : Nat) (s : Mem), i + q = to → q < m → top ≤ 420 → exM (s 137) (s 138) (s 143) q i (stk (s 144) top) = some [v] → ∃ g, F_R_runs_8 m 0 (nI to) (nI top) (nI i) s = some (v, rp s 144 g) := by
  have e0 : (400 : Int32) * 0 + nI to = nI to := by
    rw [show (400 : Int32) * 0 = nI 0 from by decide, nI_add, Nat.zero_add]
  intro q
  induction q with
  | zero =>
    intro i top m s hi hm ht he
    obtain ⟨m, rfl⟩ : ∃ m', m = m' + 1 := ⟨m - 1, by omega⟩
    have hi : i = to := by omega
    subst hi
    simp only [exM, Option.some.injEq] at he
    have hl := stk_len (s 144) top
    rw [he] at hl
    have ht1 : top = 1 := hl.symm
    subst ht1
    have hv : s 144 0 = v := by
      simp only [stk, List.cons.injEq, and_true] at he
      exact he
    refine ⟨s 144, ?_⟩
    have l0 : ld s 144 0 = some (s 144 0) := ld_in (k := 0) rfl (by decide) (by decide)
    simp only [F_R_runs_8, e0, if_pos (nI_le (Nat.le_refl i) (show i < 2 ^ 31 by omega)), l0, Option.bind_some, hv, rp_id]
  | succ q ih =>
    intro i top m s hi hm ht he
    obtain ⟨m, rfl⟩ : ∃ m', m = m' + 1 := ⟨m - 1, by omega⟩
    have l7 : ld s 137 (nI i) = some (s 137 i) := ld_in rfl (show i < 1200 by omega) (by decide)
    have l8 : ld s 138 (nI i) = some (s 138 i) := ld_in rfl (show i < 1200 by omega) (by decide)
    have n1 : ¬ nI to ≤ nI i := nI_ge (by omega) (by omega)
    have hl := stk_len (s 144) top
    simp only [exM] at he
    obtain ⟨st1, hst, he⟩ := Option.bind_eq_some_iff.mp he
    have go : ∀ (k : Nat) (w : Int32) (top' : Nat), top' ≤ 420 → stk (up (s 144) k w) top' = st1 → ∃ g, F_R_runs_8 m 0 (nI to) (nI top') (nI (i + 1)) (mw s 144 k w) = some (v, rp s 144 g) := by
      intro k w top' h1 h2
      obtain ⟨g, hg⟩ := ih (i + 1) top' m (mw s 144 k w) (by omega) (by omega) h1 (by
        show exM (s 137) (s 138) (s 143) q (i + 1) (stk (up (s 144) k w) top') = some [v]
        rw [h2]
        exact he)
      refine ⟨g, ?_⟩
      rw [hg, show mw s 144 k w = rp s 144 (up (s 144) k w) from rfl, rp_rp]
    unfold stM at hst
    by_cases h0 : s 137 i = 0
    · rw [if_pos h0] at hst
      by_cases hlen : (stk (s 144) top).length < 420
      · rw [if_pos hlen] at hst
        cases hst
        obtain ⟨g, hg⟩ := go top (s 138 i) (top + 1) (by omega) (stk_push _ _ _)
        refine ⟨g, ?_⟩
        simp only [F_R_runs_8, e0, if_neg n1, l7, l8, Option.bind_some, h0, if_true, nI_1]
        rw [sd_in (c := 144) rfl (show top < 420 by omega) (by decide)]
        exact hg
      · rw [if_neg hlen] at hst
        cases hst
    · rw [if_neg h0] at hst
      by_cases h1 : s 137 i = 1
      · rw [if_pos h1] at hst
        by_cases hc : (stk (s 144) top).length < 420 ∧ 0 ≤ s 138 i ∧ s 138 i < 11
        · rw [if_pos hc] at hst
          cases hst
          obtain ⟨g, hg⟩ := go top (s 143 (s 138 i).toNatClampNeg) (top + 1) (by omega) (stk_push _ _ _)
          refine ⟨g, ?_⟩
          have x1 : ¬ s 138 i < 0 := by
            have := hc.2.1
            rw [fa_le] at this
            rw [fa_lt]
            omega
          obtain ⟨j, hj, ej⟩ := nI_of x1
          have hj11 : j < 11 := by
            have := hc.2.2
            rw [ej, show (11 : Int32) = nI 11 from rfl, nI_ltI hj (by decide)] at this
            exact this
          have l13 : ld s 143 (s 138 i) = some (s 143 (s 138 i).toNatClampNeg) := by
            rw [ej, nI_clamp hj]
            exact ld_in rfl (show j < 11 from hj11) (by decide)
          simp only [F_R_runs_8, e0, if_neg n1, l7, l8, Option.bind_some, h1, one0, if_true, if_false, l13, nI_1]
          rw [sd_in (c := 144) rfl (show top < 420 by omega) (by decide)]
          exact hg
        · rw [if_neg hc] at hst
          cases hst
      · rw [if_neg h1] at hst
        by_cases h9 : s 137 i = 9
        · rw [if_pos h9] at hst
          match top, ht, hl, hst, go with
          | 0, _, _, hst, _ => cases hst
          | k + 1, ht, hl, hst, go =>
            have hst : some ((1 - s 144 k) :: stk (s 144) k) = some st1 := hst
            cases hst
            obtain ⟨g, hg⟩ := go k (1 - s 144 k) (k + 1) ht (stk_push _ _ _)
            refine ⟨g, ?_⟩
            have l14 : ld s 144 (nI k) = some (s 144 k) := ld_in rfl (show k < 420 by omega) (by decide)
            simp only [F_R_runs_8, e0, if_neg n1, l7, Option.bind_some, h9, show ((9 : Int32) = 0) = False from by decide, show ((9 : Int32) = 1) = False from by decide, if_true, if_false, nI_pred, l14, nI_1]
            rw [sd_in (c := 144) rfl (show k < 420 by omega) (by decide)]
            exact hg
        · rw [if_neg h9] at hst
          match top, ht, hl, hst, go with
          | 0, _, _, hst, _ => cases hst
          | 1, _, _, hst, _ => cases hst
          | k + 2, ht, hl, hst, go =>
            have hst : (twoO (s 137 i) (s 144 k) (s 144 (k + 1))).map (fun v => v :: stk (s 144) k) = some st1 := hst
            obtain ⟨w, hw, hst⟩ := Option.map_eq_some_iff.mp hst
            subst hst
            obtain ⟨g, hg⟩ := go k w (k + 1) (by omega) (stk_push _ _ _)
            refine ⟨g, ?_⟩
            have l14 : ld s 144 (nI k) = some (s 144 k) := ld_in rfl (show k < 420 by omega) (by decide)
            have l15 : ld s 144 (nI (k + 1)) = some (s 144 (k + 1)) := ld_in rfl (show k + 1 < 420 by omega) (by decide)
            have e1 : nI (k + 2) - 1 = nI (k + 1) := nI_pred (k + 1)
            simp only [F_R_runs_8, e0, if_neg n1, l7, Option.bind_some, if_neg h0, if_neg h1, if_neg h9, e1, nI_pred, l14, l15, R_two, hw, Option.map_some, nI_1]
            rw [sd_in (c := 144) rfl (show k < 420 by omega) (by decide)]
            exact hg
theorem R_run {s : Mem} {p q : Nat} {v : Int32} (hq : q ≤ 400) (hpq : p ≤ q) (h : exM (s 137) (s 138) (s 143) (q - p) p [] = some [v]) : ∃ g, F_R_runs 0 (nI p) (nI q) s = some (v, rp s 144 g) := by
  obtain ⟨g, hg⟩ := mrun hq (q - p) p 0 gF s (by omega) (by rw [gF_eq]; omega) (by decide) h
  refine ⟨g, ?_⟩
  unfold F_R_runs
  rw [show (400 : Int32) * 0 + nI p = nI p by rw [show (400 : Int32) * 0 = nI 0 from by decide, nI_add, Nat.zero_add]]
  exact hg
