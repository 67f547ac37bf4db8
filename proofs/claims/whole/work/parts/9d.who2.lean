theorem i_or0 (x : Int32) : x ||| 0 = x := Int32.or_zero
theorem fit14 {n f z w : Nat} {x3 x4 : Int32} {k k' : Int32 → Int32 → Int32 → Int32 → Mem → Option (Int32 × Mem)} {a0 b0 : Mem} (hw : w < n) (hq : ∀ i, i < z → QA 2 n a0 b0 f i) (hf : f < 6) (hz : z ≤ 16) (ez : a0 4 f = nI z) (eb : b0 127 f = nI z) : ∀ (q i m m' : Nat) (v : Int32) (a b : Mem), eqA a a0 → eqB b b0 → i + q = z → q < m → q < m' → ∃ (v' : Int32) (a' b' : Mem), F_U_fitting_14 k m (nI f) x3 x4 (nI w) v (nI i) a = k (nI f) x3 (if v' = x3 then x4 ||| shl 1 (nI w) else x4) (nI (w + 1)) a' ∧ F_R_fittingSet_12 k' m' (nI f) x3 x4 (nI w) v (nI i) b = k' (nI f) x3 (if v' = x3 then x4 ||| shl 1 (nI w) else x4) (nI (w + 1)) b' ∧ eqA a' a0 ∧ eqB b' b0 := by
  intro q
  induction q with
  | zero =>
    intro i m m' v a b ha hb hi hm hm'
    obtain ⟨m, rfl⟩ : ∃ k, m = k + 1 := ⟨m - 1, by omega⟩
    obtain ⟨m', rfl⟩ : ∃ k, m' = k + 1 := ⟨m' - 1, by omega⟩
    have es : F_H_size 2 (nI f) a = some (nI z, a) := by rw [H_size (c := 4) rfl rfl rfl rfl hf, ha 4 (by decide) (by decide), ez]
    have lb : ld b 127 (nI f) = some (nI z) := (ld_in rfl (show f < 6 from hf) (by decide)).trans (by rw [hb 127 (by decide) (by decide), eb])
    have c : nI z ≤ nI i := nI_le (by omega) (by omega)
    refine ⟨v, a, b, ?_, ?_, ha, hb⟩
    · by_cases e : v = x3
      · simp only [F_U_fitting_14, es, Option.bind_some, if_pos c, if_pos e, nI_1]
      · simp only [F_U_fitting_14, es, Option.bind_some, if_pos c, if_neg e, nI_1, i_or0]
    · by_cases e : v = x3
      · simp only [F_R_fittingSet_12, lb, Option.bind_some, if_pos c, if_pos e, nI_1]
      · simp only [F_R_fittingSet_12, lb, Option.bind_some, if_pos c, if_neg e, nI_1]
  | succ q ih =>
    intro i m m' v a b ha hb hi hm hm'
    obtain ⟨m, rfl⟩ : ∃ k, m = k + 1 := ⟨m - 1, by omega⟩
    obtain ⟨m', rfl⟩ : ∃ k, m' = k + 1 := ⟨m' - 1, by omega⟩
    have es : F_H_size 2 (nI f) a = some (nI z, a) := by rw [H_size (c := 4) rfl rfl rfl rfl hf, ha 4 (by decide) (by decide), ez]
    have lb : ld b 127 (nI f) = some (nI z) := (ld_in rfl (show f < 6 from hf) (by decide)).trans (by rw [hb 127 (by decide) (by decide), eb])
    have c : ¬ nI z ≤ nI i := nI_ge (by omega) (by omega)
    obtain ⟨y, a1, b1, hy, y1, y2, o1, o2⟩ := mk_pair (Or.inl rfl) (QA_e (Or.inl rfl) ha hb (hq i (by omega))) hw
    rcases hy with rfl | rfl
    · obtain ⟨v', a2, b2, z1, z2, z3, z4⟩ := ih (i + 1) m m' v a1 b1 (eqA_tr o1 ha) (eqB_tr o2 hb) (by omega) (by omega) (by omega)
      refine ⟨v', a2, b2, ?_, ?_, z3, z4⟩
      · rw [← z1]
        simp only [F_U_fitting_14, es, Option.bind_some, if_neg c, y1, if_true, i_or0, nI_1]
      · rw [← z2]
        simp only [F_R_fittingSet_12, lb, Option.bind_some, if_neg c, y2, if_true, nI_1]
    · obtain ⟨v', a2, b2, z1, z2, z3, z4⟩ := ih (i + 1) m m' (v ||| shl 1 (nI i)) a1 b1 (eqA_tr o1 ha) (eqB_tr o2 hb) (by omega) (by omega) (by omega)
      refine ⟨v', a2, b2, ?_, ?_, z3, z4⟩
      · rw [← z1]
        simp only [F_U_fitting_14, es, Option.bind_some, if_neg c, y1, one0, if_false, nI_1]
      · rw [← z2]
        simp only [F_R_fittingSet_12, lb, Option.bind_some, if_neg c, y2, one0, if_false, nI_1]
theorem fit4 {n f z : Nat} {x3 : Int32} {a0 b0 : Mem} (hn : VR n a0 b0) (hq : ∀ i, i < z → QA 2 n a0 b0 f i) (hf : f < 6) (hz : z ≤ 16) (ez : a0 4 f = nI z) (eb : b0 127 f = nI z) : ∀ (q w m m' A : Nat) (a b : Mem), eqA a a0 → eqB b b0 → A < 2 ^ w → w + q = n → q < m → q < m' → ∃ (R : Nat) (a' b' : Mem), R < 2 ^ n ∧ F_U_fitting_4 m (nI f) x3 (nI A) (nI w) a = some (nI R, a') ∧ F_R_fittingSet_4 m' (nI f) x3 (nI A) (nI w) b = some (nI R, b') ∧ eqA a' a0 ∧ eqB b' b0 := by
  obtain ⟨n8, n2, n3, -⟩ := hn
  intro q
  induction q with
  | zero =>
    intro w m m' A a b ha hb hA hw hm hm'
    obtain ⟨m, rfl⟩ : ∃ k, m = k + 1 := ⟨m - 1, by omega⟩
    obtain ⟨m', rfl⟩ : ∃ k, m' = k + 1 := ⟨m' - 1, by omega⟩
    have c : nI n ≤ nI w := nI_le (by omega) (by omega)
    have e : w = n := by omega
    subst e
    refine ⟨A, a, b, hA, ?_, ?_, ha, hb⟩
    · simp only [F_U_fitting_4, ha 22 (by decide) (by decide), n2, if_pos c]
    · simp only [F_R_fittingSet_4, hb 123 (by decide) (by decide), n3, if_pos c]
  | succ q ih =>
    intro w m m' A a b ha hb hA hw hm hm'
    obtain ⟨m, rfl⟩ : ∃ k, m = k + 1 := ⟨m - 1, by omega⟩
    obtain ⟨m', rfl⟩ : ∃ k, m' = k + 1 := ⟨m' - 1, by omega⟩
    have c : ¬ nI n ≤ nI w := nI_ge (by omega) (by omega)
    obtain ⟨v', a1, b1, z1, z2, z3, z4⟩ := fit14 (x3 := x3) (x4 := nI A) (k := F_U_fitting_4 m) (k' := F_R_fittingSet_4 m') (show w < n by omega) hq hf hz ez eb z 0 gF gF 0 a b ha hb (by omega) (by rw [gF_eq]; omega) (by rw [gF_eq]; omega)
    have z1 : F_U_fitting_14 (F_U_fitting_4 m) gF (nI f) x3 (nI A) (nI w) 0 0 a = _ := z1
    have z2 : F_R_fittingSet_12 (F_R_fittingSet_4 m') gF (nI f) x3 (nI A) (nI w) 0 0 b = _ := z2
    obtain ⟨A', hA', eA⟩ : ∃ A', A' < 2 ^ (w + 1) ∧ (if v' = x3 then nI A ||| shl 1 (nI w) else nI A) = nI A' := by
      by_cases e : v' = x3
      · refine ⟨A ||| 2 ^ w, Nat.or_lt_two_pow (Nat.lt_trans hA (Nat.pow_lt_pow_right (by decide) (Nat.lt_succ_self w))) (Nat.pow_lt_pow_right (by decide) (Nat.lt_succ_self w)), ?_⟩
        rw [if_pos e, n_shl1 (by omega), fa_or]
      · exact ⟨A, Nat.lt_trans hA (Nat.pow_lt_pow_right (by decide) (Nat.lt_succ_self w)), if_neg e⟩
    rw [eA] at z1 z2
    obtain ⟨R, a2, b2, hR, y1, y2, y3, y4⟩ := ih (w + 1) m m' A' a1 b1 z3 z4 hA' (by omega) (by omega) (by omega)
    refine ⟨R, a2, b2, hR, ?_, ?_, y3, y4⟩
    · rw [← y1, ← z1]
      simp only [F_U_fitting_4, ha 22 (by decide) (by decide), n2, if_neg c]
    · rw [← y2, ← z2]
      simp only [F_R_fittingSet_4, hb 123 (by decide) (by decide), n3, if_neg c]
theorem or_bit (B w t : Nat) : (B ||| 2 ^ w).testBit t = if t = w then true else B.testBit t := by
  rw [Nat.testBit_or, Nat.testBit_two_pow]
  by_cases e : t = w
  · subst e; simp
  · rw [if_neg e]
    simp [show ¬ w = t from fun q => e q.symm]
theorem pc_set {B w : Nat} (hw : w < 16) (h : B.testBit w = false) : pc 16 (B ||| 2 ^ w) = pc 16 B + 1 := by
  have := fb_ct_upd (fun i => B.testBit i) true hw
  unfold pc
  rw [show (fun i => (B ||| 2 ^ w).testBit i) = fun k => if k = w then true else B.testBit k from funext fun k => or_bit B w k]
  rw [h] at this
  simpa using this
theorem bit_lt {A t : Nat} (hA : A < 65536) (h : A.testBit t = true) : t < 16 := by
  rcases Nat.lt_or_ge t 16 with q | q
  · exact q
  · rw [Nat.testBit_lt_two_pow (Nat.lt_of_lt_of_le hA (Nat.pow_le_pow_right (n := 2) (by decide) q))] at h
    cases h
theorem pc_eq {A B : Nat} (hA : A < 65536) (hs : ∀ t, B.testBit t = true → A.testBit t = true) (hc : pc 16 A ≤ pc 16 B) : B = A := by
  refine Nat.eq_of_testBit_eq (fun t => ?_)
  by_cases h1 : B.testBit t = true
  · rw [h1, hs t h1]
  · have h1 : B.testBit t = false := by simpa using h1
    rw [h1]
    by_cases h2 : A.testBit t = true
    · have h3 := bit_lt hA h2
      have h4 := pc_set h3 h1
      have h5 : pc 16 (B ||| 2 ^ t) ≤ pc 16 A := fb_ct_sub (fun k _ hk => by
        have hk : (B ||| 2 ^ t).testBit k = true := hk
        rw [or_bit] at hk
        by_cases e : k = t
        · subst e; exact h2
        · rw [if_neg e] at hk; exact hs k hk)
      omega
    · exact (by simpa using h2 : A.testBit t = false).symm
theorem pc_z {B : Nat} (hB : B < 65536) : pc 16 B = 0 ↔ B = 0 := by
  constructor
  · intro h
    refine Nat.eq_of_testBit_eq (fun t => ?_)
    rw [Nat.zero_testBit]
    rcases Nat.lt_or_ge t 16 with q | q
    · exact fb_ct_zero.mp h t q
    · exact Nat.testBit_lt_two_pow (Nat.lt_of_lt_of_le hB (Nat.pow_le_pow_right (n := 2) (by decide) q))
  · intro h; subst h; exact pc_0
theorem tel25 {n f i A : Nat} {k k' : Int32 → Int32 → Int32 → Mem → Option (Int32 × Mem)} {a0 b0 : Mem} (hA : A < 2 ^ n) (hq : QA 91 n a0 b0 f i) : ∀ (q w m m' B : Nat) (a b : Mem), eqA a a0 → eqB b b0 → (∀ t, B.testBit t = true → A.testBit t = true ∧ t < w) → w + q = n → q < m → q < m' → ∃ (a' b' : Mem), eqA a' a0 ∧ eqB b' b0 ∧ ((F_U_tellingStep_25 k m (nI f) (nI A) (nI i) (nI B) (nI w) a = k (nI f) (nI A) (nI (i + 1)) a' ∧ F_R_firstLoose_15 k' m' (nI f) (nI A) (nI i) (nI (pc 16 B)) (nI w) b = k' (nI f) (nI A) (nI (i + 1)) (mw b' 123 41 0)) ∨ (F_U_tellingStep_25 k m (nI f) (nI A) (nI i) (nI B) (nI w) a = some (nI i, a') ∧ F_R_firstLoose_15 k' m' (nI f) (nI A) (nI i) (nI (pc 16 B)) (nI w) b = some (nI i, mw b' 123 41 0))) := by
  obtain ⟨n8, n2, n3, -⟩ := hq.2.2.2.2.2
  have hA16 : A < 65536 := Nat.lt_of_lt_of_le hA (Nat.pow_le_pow_right (n := 2) (by decide) (show n ≤ 16 by omega))
  have hBs : ∀ B : Nat, (∀ t, B.testBit t = true → A.testBit t = true) → B < 65536 := fun B h => by
    show B < 2 ^ 16
    refine Nat.lt_pow_two_of_testBit B (fun t ht => ?_)
    by_cases e : B.testBit t = true
    · have := bit_lt hA16 (h t e)
      omega
    · simpa using e
  intro q
  induction q with
  | zero =>
    intro w m m' B a b ha hb hB hw hm hm'
    obtain ⟨m, rfl⟩ : ∃ k, m = k + 1 := ⟨m - 1, by omega⟩
    obtain ⟨m', rfl⟩ : ∃ k, m' = k + 1 := ⟨m' - 1, by omega⟩
    have c : nI n ≤ nI w := nI_le (by omega) (by omega)
    have hB16 := hBs B (fun t h => (hB t h).1)
    have pB : pc 16 B ≤ 16 := fb_ct_le _ 16
    have pA : pc 16 A ≤ 16 := fb_ct_le _ 16
    have x0 : (nI B = 0) ↔ B = 0 := nI_eq (b := 0) (by omega) (by decide)
    have xA : (nI B = nI A) ↔ B = A := nI_eq (by omega) (by omega)
    have y0 : (nI (pc 16 B) ≤ 0) ↔ pc 16 B ≤ 0 := nI_leI (b := 0) (by omega) (by decide)
    have yA : (nI (pc 16 A) ≤ nI (pc 16 B)) ↔ pc 16 A ≤ pc 16 B := nI_leI (by omega) (by omega)
    have z := pc_z hB16
    refine ⟨a, b, ha, hb, ?_⟩
    by_cases e0 : B = 0
    · left
      refine ⟨?_, ?_⟩
      · simp only [F_U_tellingStep_25, ha 22 (by decide) (by decide), n2, if_pos c, if_pos (x0.mpr e0), nI_1]
      · simp only [F_R_firstLoose_15, hb 123 (by decide) (by decide), n3, if_pos c, if_pos (y0.mpr (by have := z.mpr e0; omega)), nI_1]
    · by_cases eA : B = A
      · left
        refine ⟨?_, ?_⟩
        · simp only [F_U_tellingStep_25, ha 22 (by decide) (by decide), n2, if_pos c, if_neg (fun q => e0 (x0.mp q)), if_pos (xA.mpr eA), nI_1]
        · simp only [F_R_firstLoose_15, hb 123 (by decide) (by decide), n3, if_pos c, if_neg (fun q => e0 (z.mp (by have := y0.mp q; omega))), R_onesOf hA16, Option.bind_some, if_pos (yA.mpr (by rw [eA]; exact Nat.le_refl _)), nI_1]
      · right
        refine ⟨?_, ?_⟩
        · simp only [F_U_tellingStep_25, ha 22 (by decide) (by decide), n2, if_pos c, if_neg (fun q => e0 (x0.mp q)), if_neg (fun q => eA (xA.mp q))]
        · simp only [F_R_firstLoose_15, hb 123 (by decide) (by decide), n3, if_pos c, if_neg (fun q => e0 (z.mp (by have := y0.mp q; omega))), R_onesOf hA16, Option.bind_some, if_neg (fun q => eA (pc_eq hA16 (fun t h => (hB t h).1) (yA.mp q)))]
  | succ q ih =>
    intro w m m' B a b ha hb hB hw hm hm'
    obtain ⟨m, rfl⟩ : ∃ k, m = k + 1 := ⟨m - 1, by omega⟩
    obtain ⟨m', rfl⟩ : ∃ k, m' = k + 1 := ⟨m' - 1, by omega⟩
    have c : ¬ nI n ≤ nI w := nI_ge (by omega) (by omega)
    have eb := n_bit (a := A) (k := w) (by omega) (by omega)
    have eh := R_has (a := A) (k := w) (by omega) (by omega) b
    have hBw : ∀ t, B.testBit t = true → A.testBit t = true ∧ t < w + 1 := fun t h => ⟨(hB t h).1, by have := (hB t h).2; omega⟩
    by_cases e : A.testBit w = true
    · rw [if_pos e] at eb eh
      obtain ⟨y, a1, b1, hy, y1, y2, o1, o2⟩ := mk_pair (Or.inr rfl) (QA_e (Or.inr rfl) ha hb hq) (show w < n by omega)
      rcases hy with rfl | rfl
      · obtain ⟨a2, b2, z1, z2, z3⟩ := ih (w + 1) m m' B a1 b1 (eqA_tr o1 ha) (eqB_tr o2 hb) hBw (by omega) (by omega) (by omega)
        refine ⟨a2, b2, z1, z2, ?_⟩
        have s1 : F_U_tellingStep_25 k (m + 1) (nI f) (nI A) (nI i) (nI B) (nI w) a = F_U_tellingStep_25 k m (nI f) (nI A) (nI i) (nI B) (nI (w + 1)) a1 := by
          simp only [F_U_tellingStep_25, ha 22 (by decide) (by decide), n2, if_neg c, eb, show (nI 1 = 1) = True from by decide, if_true, y1, Option.bind_some, nI_1]
        have s2 : F_R_firstLoose_15 k' (m' + 1) (nI f) (nI A) (nI i) (nI (pc 16 B)) (nI w) b = F_R_firstLoose_15 k' m' (nI f) (nI A) (nI i) (nI (pc 16 B)) (nI (w + 1)) b1 := by
          simp only [F_R_firstLoose_15, hb 123 (by decide) (by decide), n3, if_neg c, eh, Option.bind_some, one0, if_false, y2, if_true, nI_1]
        rw [s1, s2]
        exact z3
      · have hBf : B.testBit w = false := by
          by_cases q : B.testBit w = true
          · have := (hB w q).2; omega
          · simpa using q
        have hp := pc_set (B := B) (w := w) (by omega) hBf
        obtain ⟨a2, b2, z1, z2, z3⟩ := ih (w + 1) m m' (B ||| 2 ^ w) a1 b1 (eqA_tr o1 ha) (eqB_tr o2 hb) (fun t ht => by
          rw [or_bit] at ht
          by_cases q : t = w
          · subst q; exact ⟨e, by omega⟩
          · rw [if_neg q] at ht; exact hBw t ht) (by omega) (by omega) (by omega)
        refine ⟨a2, b2, z1, z2, ?_⟩
        have s1 : F_U_tellingStep_25 k (m + 1) (nI f) (nI A) (nI i) (nI B) (nI w) a = F_U_tellingStep_25 k m (nI f) (nI A) (nI i) (nI (B ||| 2 ^ w)) (nI (w + 1)) a1 := by
          simp only [F_U_tellingStep_25, ha 22 (by decide) (by decide), n2, if_neg c, eb, show (nI 1 = 1) = True from by decide, if_true, y1, Option.bind_some, one0, if_false, nI_1]
          rw [n_shl1 (by omega), fa_or]
        have s2 : F_R_firstLoose_15 k' (m' + 1) (nI f) (nI A) (nI i) (nI (pc 16 B)) (nI w) b = F_R_firstLoose_15 k' m' (nI f) (nI A) (nI i) (nI (pc 16 (B ||| 2 ^ w))) (nI (w + 1)) b1 := by
          simp only [F_R_firstLoose_15, hb 123 (by decide) (by decide), n3, if_neg c, eh, Option.bind_some, one0, if_false, y2, nI_1, hp]
        rw [s1, s2]
        exact z3
    · rw [if_neg e] at eb eh
      obtain ⟨a2, b2, z1, z2, z3⟩ := ih (w + 1) m m' B a b ha hb hBw (by omega) (by omega) (by omega)
      refine ⟨a2, b2, z1, z2, ?_⟩
      have s1 : F_U_tellingStep_25 k (m + 1) (nI f) (nI A) (nI i) (nI B) (nI w) a = F_U_tellingStep_25 k m (nI f) (nI A) (nI i) (nI B) (nI (w + 1)) a := by
        simp only [F_U_tellingStep_25, ha 22 (by decide) (by decide), n2, if_neg c, eb, show (nI 0 = 1) = False from by decide, if_false, nI_1]
      have s2 : F_R_firstLoose_15 k' (m' + 1) (nI f) (nI A) (nI i) (nI (pc 16 B)) (nI w) b = F_R_firstLoose_15 k' m' (nI f) (nI A) (nI i) (nI (pc 16 B)) (nI (w + 1)) b := by
        simp only [F_R_firstLoose_15, hb 123 (by decide) (by decide), n3, if_neg c, eh, Option.bind_some, if_true, nI_1]
      rw [s1, s2]
      exact z3
