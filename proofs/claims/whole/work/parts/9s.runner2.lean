/-! ===== runner: the fewest rolls, what is left ===== -/
/-- the rolls of all sets below t -/
def RB (t : Nat) (a b : Mem) : Prop := b 156 0 = 0 ∧ ∀ u, 0 < u → u < t → FE u (a 102 u) (b 156 u)
theorem fw4 {L : Nat → Nat} {n t : Nat} {r : Int32} {a : Mem} {k7 : Int32 → Int32 → Mem → Option (Int32 × Mem)} (hn : n ≤ 7) (ht : t < 2 ^ n) (h0 : 0 < t) (ea : ∀ u, 0 < u → u < 2 ^ n → a 101 u = nI (usd L n u)) : ∀ (c m m' : Nat) (x3 : Int32) (b : Mem), c &&& t = c → c < m → c < m' → (∀ u, 0 < u → u ≤ t → b 155 u = nI (usd L n u)) → RB t a b → FE t x3 (b 156 t) → ∃ (v : Int32) (b' : Mem), F_D_fewestRolls_4 m (nI t) r x3 (nI c) a = some (v, a) ∧ F_R_findsRolls_27 k7 m' r (nI t) (nI c) b = k7 r (nI (t + 1)) b' ∧ FE t v (b' 156 t) ∧ (∀ x, x ≠ 156 → b' x = b x) ∧ ∀ u, u ≠ t → b' 156 u = b 156 u := by
  have hp : 2 ^ n ≤ 2 ^ 7 := Nat.pow_le_pow_right (by decide) hn
  have hp : 2 ^ n ≤ 128 := hp
  intro c
  induction c using Nat.strongRecOn with
  | ind c ih =>
    intro m m' x3 b hc hm hm' e5 hR hF
    obtain ⟨m, rfl⟩ : ∃ k, m = k + 1 := ⟨m - 1, by omega⟩
    obtain ⟨m', rfl⟩ : ∃ k, m' = k + 1 := ⟨m' - 1, by omega⟩
    have hct : c ≤ t := by rw [← hc]; exact Nat.and_le_right
    rcases Nat.eq_zero_or_pos c with e | e
    · subst e
      refine ⟨x3, b, ?_, ?_, hF, fun _ _ => rfl, fun _ _ => rfl⟩
      · simp only [F_D_fewestRolls_4, if_pos (show nI 0 ≤ 0 from by decide)]
      · simp only [F_R_findsRolls_27, if_pos (show nI 0 ≤ 0 from by decide), nI_1]
    · obtain ⟨s1, s2, s3, s4⟩ := rnS t (by omega) c (by omega) hc
      have s2 := s2 e
      have lt : (c - 1) &&& t < c := Nat.lt_of_le_of_lt Nat.and_le_left (by omega)
      have g0 : ¬ nI c ≤ 0 := nI_ge (b := c) (a := 0) (by omega) (by omega)
      have en : (nI c - 1) &&& nI t = nI ((c - 1) &&& t) := by
        rw [show nI c - 1 = nI (c - 1) from n_sub (b := 1) (by omega), fa_and]
      have la : ld a 101 (nI c) = some (nI (usd L n c)) := (ld_in rfl (show c < 128 by omega) (by decide)).trans (congrArg some (ea c e (by omega)))
      have lb : ld b 155 (nI c) = some (nI (usd L n c)) := (ld_in rfl (show c < 128 by omega) (by decide)).trans (congrArg some (e5 c e hct))
      have ex : nI t ^^^ nI c = nI (t ^^^ c) := n_xor t c
      have ey : nI t &&& (nI c ^^^ (-1)) = nI (t ^^^ c) := by
        rw [n_not (by omega), fa_and, s1]
      by_cases g : r < nI (usd L n c)
      · obtain ⟨v, b', z1, z2, z3⟩ := ih _ lt m m' x3 b s4 (by omega) (by omega) e5 hR hF
        refine ⟨v, b', ?_, ?_, z3⟩
        · rw [← z1]
          simp only [F_D_fewestRolls_4, if_neg g0, la, Option.bind_some, if_pos g, en]
        · rw [← z2]
          simp only [F_R_findsRolls_27, if_neg g0, lb, Option.bind_some, if_pos g, en]
      · have l2 : ld b 156 (nI t) = some (b 156 t) := ld_in rfl (show t < 128 by omega) (by decide)
        have l3 : ld b 156 (nI (t ^^^ c)) = some (b 156 (t ^^^ c)) := ld_in rfl (show t ^^^ c < 128 by omega) (by decide)
        have w1 : ∀ v, sd b 156 (nI t) v = some (mw b 156 t v) := fun v => sd_in rfl (show t < 128 by omega) (by decide)
        have go : ∀ u, (FE t u (b 156 (t ^^^ c) + 1) ∨ (u = 1000001 ∧ b 156 (t ^^^ c) + 1 = 100000001)) → ∃ (v : Int32) (b' : Mem), F_D_fewestRolls_4 m (nI t) r (if u < x3 then u else x3) (nI ((c - 1) &&& t)) a = some (v, a) ∧ F_R_findsRolls_27 k7 m' r (nI t) (nI ((c - 1) &&& t)) (mw b 156 t (if b 156 (t ^^^ c) + 1 ≤ b 156 t then b 156 (t ^^^ c) + 1 else b 156 t)) = k7 r (nI (t + 1)) b' ∧ FE t v (b' 156 t) ∧ (∀ x, x ≠ 156 → b' x = b x) ∧ ∀ u, u ≠ t → b' 156 u = b 156 u := fun u hu => by
          obtain ⟨v, b', z1, z2, z3, z4, z5⟩ := ih _ lt m m' (if u < x3 then u else x3) (mw b 156 t (if b 156 (t ^^^ c) + 1 ≤ b 156 t then b 156 (t ^^^ c) + 1 else b 156 t)) s4 (by omega) (by omega) e5 ⟨by rw [mw_n (by omega)]; exact hR.1, fun u u0 u1 => by rw [mw_n (by omega)]; exact hR.2 u u0 u1⟩ (by
            rw [mw_y]
            exact FE_min (by omega) hF hu)
          exact ⟨v, b', z1, z2, z3, fun x hx => (z4 x hx).trans (mw_o hx), fun u hu => (z5 u hu).trans (mw_n hu)⟩
        by_cases g2 : t ^^^ c = 0
        · obtain ⟨v, b', z1, z2, z3⟩ := go (1 + 0) (Or.inl (Or.inr ⟨1, h0, rfl, by rw [g2, hR.1]; rfl⟩))
          refine ⟨v, b', ?_, ?_, z3⟩
          · rw [← z1]
            simp only [F_D_fewestRolls_4, if_neg g0, la, Option.bind_some, if_neg g, ex, if_pos (show nI (t ^^^ c) = 0 from by rw [g2]; rfl), C_min, en]
          · rw [← z2]
            simp only [F_R_findsRolls_27, if_neg g0, lb, Option.bind_some, if_neg g, l2, ey, l3, R_lesser, w1, en]
        · have l4 : ld a 102 (nI (t ^^^ c)) = some (a 102 (t ^^^ c)) := ld_in rfl (show t ^^^ c < 128 by omega) (by decide)
          obtain ⟨v, b', z1, z2, z3⟩ := go (1 + a 102 (t ^^^ c)) (FE_1 (hR.2 (t ^^^ c) (by omega) s2) s2)
          refine ⟨v, b', ?_, ?_, z3⟩
          · rw [← z1]
            simp only [F_D_fewestRolls_4, if_neg g0, la, Option.bind_some, if_neg g, ex, if_neg (show ¬ nI (t ^^^ c) = 0 from nI_ne0 (by omega) (by omega)), l4, C_min, en]
          · rw [← z2]
            simp only [F_R_findsRolls_27, if_neg g0, lb, Option.bind_some, if_neg g, l2, ey, l3, R_lesser, w1, en]
theorem ml4 {L : Nat → Nat} {n w : Nat} {r : Int32} {a b : Mem} (hn : n ≤ 7) (ea : ∀ u, 0 < u → u < 2 ^ n → a 101 u = nI (usd L n u)) (eb : ∀ u, 0 < u → u < 2 ^ n → b 155 u = nI (usd L n u)) (hR : RB (2 ^ n) a b) (hw : w < 2 ^ n) (ew : a 102 (2 ^ n - 1) = nI w ∧ b 156 (2 ^ n - 1) = nI w) : ∀ (q c m m' : Nat) (x : Int32), c + q = 2 ^ n → 0 < c → q < m → q < m' → ∃ v, F_D_mostLeft_4 m (nI (2 ^ n - 1)) r x (nI c) a = some (v, a) ∧ F_R_runner_51 m' r (nI (2 ^ n - 1)) x (nI c) b = some (v, b) := by
  have hp : 2 ^ n ≤ 2 ^ 7 := Nat.pow_le_pow_right (by decide) hn
  have hp : 2 ^ n ≤ 128 := hp
  intro q
  induction q with
  | zero =>
    intro c m m' x hc h0 hm hm'
    obtain ⟨m, rfl⟩ : ∃ k, m = k + 1 := ⟨m - 1, by omega⟩
    obtain ⟨m', rfl⟩ : ∃ k, m' = k + 1 := ⟨m' - 1, by omega⟩
    have g : nI (2 ^ n - 1) < nI c := nI_lt (by omega) (by omega)
    refine ⟨x, ?_, ?_⟩
    · simp only [F_D_mostLeft_4, if_pos g]
    · simp only [F_R_runner_51, if_pos g]
  | succ q ih =>
    intro c m m' x hc h0 hm hm'
    obtain ⟨m, rfl⟩ : ∃ k, m = k + 1 := ⟨m - 1, by omega⟩
    obtain ⟨m', rfl⟩ : ∃ k, m' = k + 1 := ⟨m' - 1, by omega⟩
    have g : ¬ nI (2 ^ n - 1) < nI c := nI_nlt (by omega) (by omega)
    have hsub : c &&& (2 ^ n - 1) = c := by rw [Nat.and_two_pow_sub_one_eq_mod, Nat.mod_eq_of_lt (by omega)]
    obtain ⟨s1, s2, s3, s4⟩ := rnS (2 ^ n - 1) (by omega) c (by omega) hsub
    have s2 := s2 h0
    obtain ⟨t, ht⟩ : ∃ t, t = 2 ^ n - 1 := ⟨_, rfl⟩
    rw [← ht] at s1 s2 s3 s4 g ew ⊢
    have ht' : t < 128 := by omega
    have la : ld a 101 (nI c) = some (nI (usd L n c)) := (ld_in rfl (show c < 128 by omega) (by decide)).trans (congrArg some (ea c h0 (by omega)))
    have lb : ld b 155 (nI c) = some (nI (usd L n c)) := (ld_in rfl (show c < 128 by omega) (by decide)).trans (congrArg some (eb c h0 (by omega)))
    have lt1 : ld a 102 (nI t) = some (nI w) := (ld_in rfl (show t < 128 by omega) (by decide)).trans (congrArg some ew.1)
    have lt2 : ld b 156 (nI t) = some (nI w) := (ld_in rfl (show t < 128 by omega) (by decide)).trans (congrArg some ew.2)
    have ex : nI t ^^^ nI c = nI (t ^^^ c) := n_xor t c
    have ey : nI t &&& (nI c ^^^ (-1)) = nI (t ^^^ c) := by
      rw [n_not (by omega), fa_and, s1]
    have l2 : ld a 102 (nI (t ^^^ c)) = some (a 102 (t ^^^ c)) := ld_in rfl (show t ^^^ c < 128 by omega) (by decide)
    have l3 : ld b 156 (nI (t ^^^ c)) = some (b 156 (t ^^^ c)) := ld_in rfl (show t ^^^ c < 128 by omega) (by decide)
    have ih := fun x => ih (c + 1) m m' x (by omega) (by omega) (by omega) (by omega)
    rw [← ht] at ih
    by_cases g1 : r < nI (usd L n c)
    · obtain ⟨v, z1, z2⟩ := ih x
      refine ⟨v, ?_, ?_⟩
      · rw [← z1]
        by_cases c1 : nI c = nI t
        · simp only [F_D_mostLeft_4, if_neg g, if_pos c1, la, Option.bind_some, if_pos g1, nI_1]
        · simp only [F_D_mostLeft_4, if_neg g, if_neg c1, ex, l2, la, Option.bind_some, if_pos g1, nI_1]
      · rw [← z2]
        simp only [F_R_runner_51, if_neg g, lb, Option.bind_some, if_pos g1, nI_1]
    · obtain ⟨v1, y1, y2⟩ := ih x
      obtain ⟨v2, y3, y4⟩ := ih (if x < r - nI (usd L n c) then r - nI (usd L n c) else x)
      by_cases c1 : c = t
      · have c1' : nI c = nI t := by rw [c1]
        have ez : t ^^^ c = 0 := by rw [c1, Nat.xor_self]
        have e0 : b 156 (t ^^^ c) = 0 := by rw [ez]; exact hR.1
        by_cases d : (0 : Int32) + 1 = nI w
        · refine ⟨v2, ?_, ?_⟩
          · rw [← y3]
            simp only [F_D_mostLeft_4, if_neg g, if_pos c1', la, Option.bind_some, if_neg g1, lt1, if_pos d, C_max, nI_1]
          · rw [← y4]
            simp only [F_R_runner_51, if_neg g, lb, Option.bind_some, if_neg g1, ey, l3, e0, lt2, if_pos d, R_gr, nI_1]
        · refine ⟨v1, ?_, ?_⟩
          · rw [← y1]
            simp only [F_D_mostLeft_4, if_neg g, if_pos c1', la, Option.bind_some, if_neg g1, lt1, if_neg d, nI_1]
          · rw [← y2]
            simp only [F_R_runner_51, if_neg g, lb, Option.bind_some, if_neg g1, ey, l3, e0, lt2, if_neg d, nI_1]
      · have c1' : ¬ nI c = nI t := fun q => c1 ((nI_eq (by omega) (by omega)).mp q)
        have hz : 0 < t ^^^ c := Nat.pos_of_ne_zero (fun q => c1 (s3 q))
        have iff : (a 102 (t ^^^ c) + 1 = nI w) ↔ (b 156 (t ^^^ c) + 1 = nI w) := by
          rcases hR.2 (t ^^^ c) hz (by omega) with ⟨p1, p2⟩ | ⟨y, y1, p1, p2⟩
          · rw [p1, p2]
            constructor
            · intro q
              exact absurd ((nI_eq (a := 1000001) (by decide) (by omega)).mp q) (by omega)
            · intro q
              exact absurd ((nI_eq (a := 100000001) (by decide) (by omega)).mp q) (by omega)
          · rw [p1, p2]
        by_cases d : a 102 (t ^^^ c) + 1 = nI w
        · refine ⟨v2, ?_, ?_⟩
          · rw [← y3]
            simp only [F_D_mostLeft_4, if_neg g, if_neg c1', ex, l2, la, Option.bind_some, if_neg g1, lt1, if_pos d, C_max, nI_1]
          · rw [← y4]
            simp only [F_R_runner_51, if_neg g, lb, Option.bind_some, if_neg g1, ey, l3, lt2, if_pos (iff.mp d), R_gr, nI_1]
        · refine ⟨v1, ?_, ?_⟩
          · rw [← y1]
            simp only [F_D_mostLeft_4, if_neg g, if_neg c1', ex, l2, la, Option.bind_some, if_neg g1, lt1, if_neg d, nI_1]
          · rw [← y2]
            simp only [F_R_runner_51, if_neg g, lb, Option.bind_some, if_neg g1, ey, l3, lt2, if_neg (fun q => d (iff.mpr q)), nI_1]
