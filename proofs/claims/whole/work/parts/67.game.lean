/-! ===== game ===== -/
theorem xor_0 {a b : Nat} : a ^^^ b = 0 ↔ a = b := by
  constructor
  · intro h
    have : (a ^^^ b) ^^^ b = 0 ^^^ b := by rw [h]
    rw [Nat.xor_assoc, Nat.xor_self, Nat.xor_zero, Nat.zero_xor] at this
    exact this
  · intro h
    rw [h, Nat.xor_self]
/-- how many must be carried -/
def gmT (odd : Bool) (p t : Nat) : Nat := if odd then p - t else t - p
/-- the first stair from k on, r of them left, by which it can be done -/
def gmF (P : Nat → Nat) (all : Nat) : Nat → Nat → Option (Nat × Nat)
  | 0, _ => none
  | r + 1, k =>
    let hp := if k % 2 = 1 then k else k - 1
    let c := gmT (k % 2 == 1) (P hp) (P hp ^^^ all)
    if 0 < c ∧ c ≤ P k then some (k, c) else gmF P all r (k + 1)
def gmA (P : Nat → Nat) : Nat := P 1 ^^^ P 3 ^^^ P 5 ^^^ P 7
theorem gm22 {s : Mem} {P : Nat → Nat} {all : Nat} (hP : ∀ k, k < 9 → s 36 k = nI (P k) ∧ P k ≤ 20) (ha : all < 32) : ∀ (r k m : Nat), 1 ≤ k → k + r = 9 → r < m → F_D_goodMove_22 m (nI all) (nI k) s = match gmF P all r k with
    | none => some (-1, s)
    | some q => some (nI (100 * q.1 + q.2), s) := by
  intro r
  induction r with
  | zero =>
    intro k m h1 hk hm
    obtain ⟨m, rfl⟩ : ∃ m', m = m' + 1 := ⟨m - 1, by omega⟩
    have : k = 9 := by omega
    subst this
    simp only [F_D_goodMove_22, gmF, show (9 : Int32) ≤ nI 9 from by decide, if_true]
  | succ r ih =>
    intro k m h1 hk hm
    obtain ⟨m, rfl⟩ : ∃ m', m = m' + 1 := ⟨m - 1, by omega⟩
    have h2 : ¬ (9 : Int32) ≤ nI k := nI_ge (b := 9) (by omega) (by decide)
    have hi : irm (nI k) 2 = nI (k % 2) := n_irmL (by omega) (by decide) (by decide) rfl
    have hi1 : (nI (k % 2) = 1) ↔ k % 2 = 1 := nI_eq (b := 1) (by omega) (by decide)
    have lk0 : ld s 36 (nI k) = some (nI (P k)) := (ld_in rfl (show k < 9 by omega) (by decide)).trans (congrArg some (hP k (by omega)).1)
    have hk1 : nI k - 1 = nI (k - 1) := n_sub (b := 1) h1
    have lk1 : ld s 36 (nI (k - 1)) = some (nI (P (k - 1))) := (ld_in rfl (show k - 1 < 9 by omega) (by decide)).trans (congrArg some (hP (k - 1) (by omega)).1)
    have b0 := (hP k (by omega)).2
    have b1 := (hP (k - 1) (by omega)).2
    have x0 : P k ^^^ all < 32 := Nat.xor_lt_two_pow (n := 5) (by omega) (by omega)
    have x1 : P (k - 1) ^^^ all < 32 := Nat.xor_lt_two_pow (n := 5) (by omega) (by omega)
    have ihk := ih (k + 1) m (by omega) (by omega) (by omega)
    simp only [F_D_goodMove_22, if_neg h2, hi, hk1, lk0, lk1, Option.bind_some, fb_xorI, nI_1, gmF]
    by_cases ho : k % 2 = 1
    · have ho' : (k % 2 == 1) = true := by simp [ho]
      simp only [if_pos (hi1.mpr ho), if_pos ho, ho', gmT, if_true]
      have q1 : (nI (P k) - nI (P k ^^^ all) ≤ 0) ↔ ¬ 0 < P k - (P k ^^^ all) := by
        rw [fa_le, i_sub (by rw [nI_toInt (by omega), nI_toInt (by omega)]; omega) (by rw [nI_toInt (by omega), nI_toInt (by omega)]; omega), nI_toInt (by omega), nI_toInt (by omega)]
        show (P k : Int) - ((P k ^^^ all : Nat) : Int) ≤ 0 ↔ _
        omega
      by_cases c1 : 0 < P k - (P k ^^^ all)
      · rw [if_neg (fun q => (q1.mp q) c1), n_sub (by omega)]
        have q2 : (nI (P k) < nI (P k - (P k ^^^ all))) ↔ ¬ P k - (P k ^^^ all) ≤ P k := by
          rw [nI_ltI (by omega) (by omega)]
          omega
        rw [if_neg (fun q => (q2.mp q) (by omega)), if_pos ⟨c1, by omega⟩]
        simp only [show (100 : Int32) = nI 100 from rfl, n_mul, nI_add]
      · rw [if_pos (q1.mpr c1), if_neg (fun q => c1 q.1)]
        exact ihk
    · have ho' : (k % 2 == 1) = false := by simp [ho]
      simp only [if_neg (fun q => ho (hi1.mp q)), if_neg ho, ho', gmT, Bool.false_eq_true, if_false]
      have q1 : (nI (P (k - 1) ^^^ all) - nI (P (k - 1)) ≤ 0) ↔ ¬ 0 < (P (k - 1) ^^^ all) - P (k - 1) := by
        rw [fa_le, i_sub (by rw [nI_toInt (by omega), nI_toInt (by omega)]; omega) (by rw [nI_toInt (by omega), nI_toInt (by omega)]; omega), nI_toInt (by omega), nI_toInt (by omega)]
        show ((P (k - 1) ^^^ all : Nat) : Int) - (P (k - 1) : Int) ≤ 0 ↔ _
        omega
      by_cases c1 : 0 < (P (k - 1) ^^^ all) - P (k - 1)
      · rw [if_neg (fun q => (q1.mp q) c1), n_sub (by omega)]
        by_cases c2 : (P (k - 1) ^^^ all) - P (k - 1) ≤ P k
        · rw [if_neg (fun q => by rw [nI_ltI (by omega) (by omega)] at q; omega), if_pos ⟨c1, c2⟩]
          simp only [show (100 : Int32) = nI 100 from rfl, n_mul, nI_add]
        · rw [if_pos (by rw [nI_ltI (by omega) (by omega)]; omega), if_neg (fun q => c2 q.2)]
          exact ihk
      · rw [if_pos (q1.mpr c1), if_neg (fun q => c1 q.1)]
        exact ihk
theorem gm49 {k33 : Int32 → Int32 → Int32 → Mem → Option (Int32 × Mem)} {s : Mem} {P : Nat → Nat} {all k hp : Nat} {x1 : Int32} (hP : ∀ k, k < 9 → s 162 k = nI (P k) ∧ P k ≤ 20) (ha : all < 32) (hk : k < 9) (hh : hp < 9) (hkk : hp = k ∨ hp ≠ k) (hodd : hp = k → P hp = P k) : ∀ (r n m : Nat), 1 ≤ n → n + r = P k + 1 → r < m → F_R_game_49 k33 m x1 (nI all) (nI k) (nI hp) (nI n) s = if n ≤ gmT (decide (k = hp)) (P hp) (P hp ^^^ all) ∧ gmT (decide (k = hp)) (P hp) (P hp ^^^ all) ≤ P k then (if x1 = 0 then some (nI k, s) else some (nI (gmT (decide (k = hp)) (P hp) (P hp ^^^ all)), s)) else k33 x1 (nI all) (nI (k + 1)) s := by
  have l0 : ld s 162 (nI k) = some (nI (P k)) := (ld_in rfl (show k < 9 by omega) (by decide)).trans (congrArg some (hP k hk).1)
  have l1 : ld s 162 (nI hp) = some (nI (P hp)) := (ld_in rfl (show hp < 9 by omega) (by decide)).trans (congrArg some (hP hp hh).1)
  have b0 := (hP k hk).2
  have b1 := (hP hp hh).2
  have x0 : P hp ^^^ all < 32 := Nat.xor_lt_two_pow (n := 5) (by omega) (by omega)
  intro r
  induction r with
  | zero =>
    intro n m h1 hn hm
    obtain ⟨m, rfl⟩ : ∃ m', m = m' + 1 := ⟨m - 1, by omega⟩
    simp only [F_R_game_49, l0, Option.bind_some]
    rw [if_pos (nI_lt (by omega) (by omega)), if_neg (by omega), nI_1]
  | succ r ih =>
    intro n m h1 hn hm
    obtain ⟨m, rfl⟩ : ∃ m', m = m' + 1 := ⟨m - 1, by omega⟩
    have ihn := ih (n + 1) m (by omega) (by omega) (by omega)
    simp only [F_R_game_49, l0, l1, Option.bind_some, fb_xorI, nI_1]
    rw [if_neg (nI_nlt (by omega) (by omega))]
    rw [Nat.xor_comm all (P hp)]
    by_cases he : k = hp
    · have hd : decide (k = hp) = true := by simp [he]
      rw [if_pos (by rw [he])]
      rw [hd] at ihn ⊢
      simp only [gmT, if_true] at ihn ⊢
      have hpk : P hp = P k := by rw [he]
      rw [n_sub (by omega), fb_xorI]
      by_cases hz : (P hp ^^^ all) = P hp - n
      · have z1 : nI ((P hp ^^^ all) ^^^ (P hp - n)) = 0 := by rw [xor_0.mpr hz]; rfl
        have z2 : n ≤ P hp - (P hp ^^^ all) ∧ P hp - (P hp ^^^ all) ≤ P k := by omega
        rw [if_pos z1, if_pos z2, show P hp - (P hp ^^^ all) = n by omega]
      · have z1 : ¬ nI ((P hp ^^^ all) ^^^ (P hp - n)) = 0 := by
          intro q
          have h9 : (P hp ^^^ all) ^^^ (P hp - n) < 32 := Nat.xor_lt_two_pow (n := 5) x0 (by omega)
          exact hz (xor_0.mp ((nI_eq (b := 0) (by omega) (by decide)).mp q))
        rw [if_neg z1, ihn]
        have z2 : (n + 1 ≤ P hp - (P hp ^^^ all) ∧ P hp - (P hp ^^^ all) ≤ P k) ↔ (n ≤ P hp - (P hp ^^^ all) ∧ P hp - (P hp ^^^ all) ≤ P k) := by omega
        by_cases z3 : n ≤ P hp - (P hp ^^^ all) ∧ P hp - (P hp ^^^ all) ≤ P k
        · rw [if_pos (z2.mpr z3), if_pos z3]
        · rw [if_neg (fun q => z3 (z2.mp q)), if_neg z3]
    · have hd : decide (k = hp) = false := by simp [he]
      rw [if_neg (fun q => he ((nI_eq (by omega) (by omega)).mp q))]
      rw [hd] at ihn ⊢
      simp only [gmT, Bool.false_eq_true, if_false, nI_add, fb_xorI] at ihn ⊢
      by_cases hz : (P hp ^^^ all) = P hp + n
      · have z1 : nI ((P hp ^^^ all) ^^^ (P hp + n)) = 0 := by rw [xor_0.mpr hz]; rfl
        have z2 : n ≤ (P hp ^^^ all) - P hp ∧ (P hp ^^^ all) - P hp ≤ P k := by omega
        rw [if_pos z1, if_pos z2, show (P hp ^^^ all) - P hp = n by omega]
      · have z1 : ¬ nI ((P hp ^^^ all) ^^^ (P hp + n)) = 0 := by
          intro q
          have h9 : (P hp ^^^ all) ^^^ (P hp + n) < 64 := Nat.xor_lt_two_pow (n := 6) (by omega) (by omega)
          exact hz (xor_0.mp ((nI_eq (b := 0) (by omega) (by decide)).mp q))
        rw [if_neg z1, ihn]
        have z2 : (n + 1 ≤ (P hp ^^^ all) - P hp ∧ (P hp ^^^ all) - P hp ≤ P k) ↔ (n ≤ (P hp ^^^ all) - P hp ∧ (P hp ^^^ all) - P hp ≤ P k) := by omega
        by_cases z3 : n ≤ (P hp ^^^ all) - P hp ∧ (P hp ^^^ all) - P hp ≤ P k
        · rw [if_pos (z2.mpr z3), if_pos z3]
        · rw [if_neg (fun q => z3 (z2.mp q)), if_neg z3]
theorem gm33 {s : Mem} {P : Nat → Nat} {all : Nat} {x1 : Int32} (hP : ∀ k, k < 9 → s 162 k = nI (P k) ∧ P k ≤ 20) (ha : all < 32) : ∀ (r k m : Nat), 1 ≤ k → k + r = 9 → r < m → F_R_game_33 m x1 (nI all) (nI k) s = match gmF P all r k with
    | none => some (-1, s)
    | some q => if x1 = 0 then some (nI q.1, s) else some (nI q.2, s) := by
  intro r
  induction r with
  | zero =>
    intro k m h1 hk hm
    obtain ⟨m, rfl⟩ : ∃ m', m = m' + 1 := ⟨m - 1, by omega⟩
    have : k = 9 := by omega
    subst this
    simp only [F_R_game_33, gmF, show (9 : Int32) ≤ nI 9 from by decide, if_true]
  | succ r ih =>
    intro k m h1 hk hm
    obtain ⟨m, rfl⟩ : ∃ m', m = m' + 1 := ⟨m - 1, by omega⟩
    have h2 : ¬ (9 : Int32) ≤ nI k := nI_ge (b := 9) (by omega) (by decide)
    have hi : irm (nI k) 2 = nI (k % 2) := n_irmL (by omega) (by decide) (by decide) rfl
    have hi1 : (nI (k % 2) = 1) ↔ k % 2 = 1 := nI_eq (b := 1) (by omega) (by decide)
    have hk1 : nI k - 1 = nI (k - 1) := n_sub (b := 1) h1
    have ihk := ih (k + 1) m (by omega) (by omega) (by omega)
    have b0 := (hP k (by omega)).2
    simp only [F_R_game_33, if_neg h2, hi, hk1, gmF]
    by_cases ho : k % 2 = 1
    · have ho' : (k % 2 == 1) = true := by simp [ho]
      have g := gm49 (k33 := F_R_game_33 m) (x1 := x1) hP ha (k := k) (hp := k) (by omega) (by omega) (Or.inl rfl) (fun _ => rfl) (P k) 1 gF (Nat.le_refl 1) (by omega) (by rw [gF_eq]; omega)
      rw [show decide (k = k) = true by simp] at g
      rw [if_pos (hi1.mpr ho)]
      simp only [if_pos ho, ho']
      refine Eq.trans g ?_
      rw [ihk]
      by_cases c1 : 0 < gmT true (P k) (P k ^^^ all) ∧ gmT true (P k) (P k ^^^ all) ≤ P k
      · rw [if_pos (show 1 ≤ gmT true (P k) (P k ^^^ all) ∧ gmT true (P k) (P k ^^^ all) ≤ P k from c1), if_pos c1]
      · rw [if_neg (show ¬ (1 ≤ gmT true (P k) (P k ^^^ all) ∧ gmT true (P k) (P k ^^^ all) ≤ P k) from c1), if_neg c1]
    · have ho' : (k % 2 == 1) = false := by simp [ho]
      have g := gm49 (k33 := F_R_game_33 m) (x1 := x1) hP ha (k := k) (hp := k - 1) (by omega) (by omega) (Or.inr (by omega)) (fun q => by omega) (P k) 1 gF (Nat.le_refl 1) (by omega) (by rw [gF_eq]; omega)
      rw [show decide (k = k - 1) = false by simp; omega] at g
      rw [if_neg (fun q => ho (hi1.mp q))]
      simp only [if_neg ho, ho']
      refine Eq.trans g ?_
      rw [ihk]
      by_cases c1 : 0 < gmT false (P (k - 1)) (P (k - 1) ^^^ all) ∧ gmT false (P (k - 1)) (P (k - 1) ^^^ all) ≤ P k
      · rw [if_pos (show 1 ≤ gmT false (P (k - 1)) (P (k - 1) ^^^ all) ∧ gmT false (P (k - 1)) (P (k - 1) ^^^ all) ≤ P k from c1), if_pos c1]
      · rw [if_neg (show ¬ (1 ≤ gmT false (P (k - 1)) (P (k - 1) ^^^ all) ∧ gmT false (P (k - 1)) (P (k - 1) ^^^ all) ≤ P k) from c1), if_neg c1]
theorem gmF_0 {P : Nat → Nat} : ∀ (r k : Nat), gmF P 0 r k = none
  | 0, _ => rfl
  | r + 1, k => by
    simp only [gmF, Nat.xor_zero]
    rw [if_neg, gmF_0 r (k + 1)]
    unfold gmT
    split <;> omega
theorem gmF_b {P : Nat → Nat} {all : Nat} (hP : ∀ k, k < 9 → P k ≤ 20) : ∀ (r k : Nat) (q : Nat × Nat), k + r = 9 → gmF P all r k = some q → q.1 < 9 ∧ q.2 ≤ 20
  | 0, _, q, _, h => by cases h
  | r + 1, k, q, hk, h => by
    simp only [gmF] at h
    generalize (if k % 2 = 1 then k else k - 1) = hp at h
    split at h
    · rename_i c
      cases h
      exact ⟨by omega, Nat.le_trans c.2 (hP k (by omega))⟩
    · exact gmF_b hP r (k + 1) q (by omega) h
theorem g_game (w : Int32) : Good Inv (F_C_game w) (F_R_game w) := by
  intro s h
  obtain ⟨⟨hHS, hHM, hBR, hLw, hOr, hVi, hDo, ⟨hT0, hT1, hT2, hT3, hT4, hT5, hT6, hT7, hT8⟩⟩, -⟩ := id h
  by_cases h1 : 0 ≤ w ∧ w ≤ 1
  · obtain ⟨P, hP⟩ : ∃ P : Nat → Nat, ∀ k, k < 9 → s 36 k = nI (P k) ∧ P k ≤ 20 := by
      refine ⟨fun k => (s 36 k).toNatClampNeg, fun k hk => ?_⟩
      obtain ⟨v, -, h2, h3⟩ := (hT8 k hk).2
      have h3 : s 36 k = nI v := h3
      show s 36 k = nI (s 36 k).toNatClampNeg ∧ (s 36 k).toNatClampNeg ≤ 20
      rw [h3, nI_clamp (by omega)]
      exact ⟨rfl, h2⟩
    have hM : ∀ k, k < 9 → (mw s 123 0 0) 162 k = nI (P k) ∧ P k ≤ 20 := fun k hk => ⟨(hT8 k hk).1.trans (hP k hk).1, (hP k hk).2⟩
    have x5 : ∀ {a b : Nat}, a < 32 → b < 32 → a ^^^ b < 32 := fun ha hb => Nat.xor_lt_two_pow (n := 5) ha hb
    have ha : gmA P < 32 := x5 (x5 (x5 (by have := (hP 1 (by decide)).2; omega) (by have := (hP 3 (by decide)).2; omega)) (by have := (hP 5 (by decide)).2; omega)) (by have := (hP 7 (by decide)).2; omega)
    have l1 : ld s 36 (nI 1) = some (nI (P 1)) := (ld_in rfl (by decide) (by decide)).trans (congrArg some (hP 1 (by decide)).1)
    have l3 : ld s 36 (nI 3) = some (nI (P 3)) := (ld_in rfl (by decide) (by decide)).trans (congrArg some (hP 3 (by decide)).1)
    have l5 : ld s 36 (nI 5) = some (nI (P 5)) := (ld_in rfl (by decide) (by decide)).trans (congrArg some (hP 5 (by decide)).1)
    have l7 : ld s 36 (nI 7) = some (nI (P 7)) := (ld_in rfl (by decide) (by decide)).trans (congrArg some (hP 7 (by decide)).1)
    have r1 : ld (mw s 123 0 0) 162 1 = some (nI (P 1)) := (ld_in (k := 1) rfl (by decide) (by decide)).trans (congrArg some (hM 1 (by decide)).1)
    have r3 : ld (mw s 123 0 0) 162 3 = some (nI (P 3)) := (ld_in (k := 3) rfl (by decide) (by decide)).trans (congrArg some (hM 3 (by decide)).1)
    have r5 : ld (mw s 123 0 0) 162 5 = some (nI (P 5)) := (ld_in (k := 5) rfl (by decide) (by decide)).trans (congrArg some (hM 5 (by decide)).1)
    have r7 : ld (mw s 123 0 0) 162 7 = some (nI (P 7)) := (ld_in (k := 7) rfl (by decide) (by decide)).trans (congrArg some (hM 7 (by decide)).1)
    have hc : F_D_goodMove s = match gmF P (gmA P) 8 1 with
        | none => some (-1, s)
        | some q => some (nI (100 * q.1 + q.2), s) := by
      unfold F_D_goodMove
      rw [show gF = 999995 + 1 + 1 + 1 + 1 + 1 from gF_eq]
      show F_D_goodMove_4 (999995 + 1 + 1 + 1 + 1 + 1) (nI 0) (nI 1) s = _
      rw [F_D_goodMove_4, if_neg (by decide), l1, Option.bind_some, fb_xorI, show nI 1 + 2 = nI 3 from rfl]
      rw [F_D_goodMove_4, if_neg (by decide), l3, Option.bind_some, fb_xorI, show nI 3 + 2 = nI 5 from rfl]
      rw [F_D_goodMove_4, if_neg (by decide), l5, Option.bind_some, fb_xorI, show nI 5 + 2 = nI 7 from rfl]
      rw [F_D_goodMove_4, if_neg (by decide), l7, Option.bind_some, fb_xorI, show nI 7 + 2 = nI 9 from rfl]
      rw [F_D_goodMove_4, if_pos (by decide), Nat.zero_xor]
      show (if nI (gmA P) = 0 then _ else _) = _
      by_cases hz : gmA P = 0
      · rw [hz, gmF_0]
        exact if_pos rfl
      · rw [if_neg (show ¬ nI (gmA P) = 0 from fun q => hz ((nI_eq (b := 0) (by omega) (by decide)).mp q))]
        exact gm22 hP ha 8 1 gF (Nat.le_refl 1) rfl (by rw [gF_eq]; omega)
    have hm := gm33 (x1 := w) hM ha 8 1 gF (Nat.le_refl 1) rfl (by rw [gF_eq]; omega)
    cases hg : gmF P (gmA P) 8 1 with
    | none =>
      rw [hg] at hc hm
      refine ⟨-1, s, mw s 123 0 0, ?_, ?_, Inv_t h⟩
      · simp only [F_C_game, C_within, Option.bind_some, b01, h1, and_self, not_true_eq_false, if_false, hc, if_true, one0]
      · simp only [F_R_game, R_isIn, Option.bind_some, b01, h1, and_self, not_true_eq_false, if_false, r1, r3, r5, r7, fb_xorI]
        exact hm
    | some q =>
      rw [hg] at hc hm
      obtain ⟨q1, q2⟩ := gmF_b (fun k hk => (hP k hk).2) 8 1 q rfl hg
      refine ⟨if w = 0 then nI q.1 else nI q.2, s, mw s 123 0 0, ?_, ?_, Inv_t h⟩
      · have d1 : nI (100 * q.1 + q.2) / 100 = nI q.1 := by
          rw [n_divL (b := 100) (y := 100) (by omega) (by decide) (by decide) rfl]
          congr 1
          omega
        have d2 : irm (nI (100 * q.1 + q.2)) 100 = nI q.2 := by
          rw [n_irmL (b := 100) (y := 100) (by omega) (by decide) (by decide) rfl]
          congr 1
          omega
        have d3 : ¬ nI (100 * q.1 + q.2) = -1 := by
          intro z
          have := congrArg Int32.toInt z
          rw [nI_toInt (by omega), show (-1 : Int32).toInt = -1 from rfl] at this
          omega
        simp only [F_C_game, C_within, Option.bind_some, b01, h1, and_self, not_true_eq_false, if_false, hc, if_neg d3, d1, d2]
        split <;> rfl
      · simp only [F_R_game, R_isIn, Option.bind_some, b01, h1, and_self, not_true_eq_false, if_false, r1, r3, r5, r7, fb_xorI]
        refine Eq.trans hm ?_
        show (if w = 0 then _ else _) = _
        split <;> rfl
  · refine ⟨-1, s, mw s 123 0 0, ?_, ?_, Inv_t h⟩
    · simp only [F_C_game, C_within, Option.bind_some, b01, h1, not_false_eq_true, if_true]
    · simp only [F_R_game, R_isIn, Option.bind_some, b01, h1, not_false_eq_true, if_true]
