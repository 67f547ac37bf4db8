/-! ===== mutiny: the fewest, class and reference ===== -/
theorem nmn {x y : Nat} (hx : x < 2 ^ 31) (hy : y < 2 ^ 31) (s : Mem) : F_JM_min (nI x) (nI y) s = some (nI (mn x y), s) := by
  rw [C_min]
  unfold mn
  by_cases c : y < x
  · rw [if_pos c, if_pos (nI_lt c hx)]
  · rw [if_neg c, if_neg (nI_nlt (by omega) hy)]
def wlN (r : Nat) : Nat := if 1 < r then r else 1
theorem wlN_1 (r : Nat) : 1 ≤ wlN r := by
  unfold wlN
  split <;> omega
theorem wlN_9 {r : Nat} (h : r ≤ 9) : wlN r ≤ 9 := by
  unfold wlN
  split <;> omega
theorem wi_c {a : Mem} {f i r : Nat} (hf : f < 6) (hi : i < 16) (hr : r ≤ 9) (e : a 3 (96 * 3 + 16 * f + i) = nI r) : F_U_willOf (nI f) (nI i) a = some (nI (wlN r), a) := by
  have g := H_get (s := a) (h0 := 2) (c := 3) (t := 3) (f := f) (i := i) rfl rfl rfl rfl (by decide) hf hi
  rw [e] at g
  rw [F_U_willOf, show (3 : Int32) = nI 3 from rfl, g]
  simp only [Option.bind_some, C_max]
  unfold wlN
  by_cases c : 1 < r
  · rw [if_pos c, if_pos (show (1 : Int32) < nI r from nI_lt (a := 1) c (by omega))]
  · rw [if_neg c, if_neg (show ¬ (1 : Int32) < nI r from nI_nlt (b := r) (a := 1) (by omega) (by decide))]
    rfl
theorem gr_r {r : Nat} (hr : r ≤ 9) (s : Mem) : F_R_greater 1 (nI r) s = some (nI (wlN r), s) := by
  rw [F_R_greater]
  unfold wlN
  by_cases c : 1 ≤ r
  · rw [if_pos (show (1 : Int32) ≤ nI r from nI_le (a := 1) c (by omega))]
    by_cases c2 : 1 < r
    · rw [if_pos c2]
    · rw [if_neg c2, show r = 1 by omega]
  · rw [if_neg (show ¬ (1 : Int32) ≤ nI r from nI_ge (b := 1) (by omega) (by decide)), if_neg (by omega)]
    rfl
/-- a flight's men: present, and how many they want beside them -/
def prZ (pr : Nat → Bool) (z : Nat) : Nat → Bool := fun i => decide (i < z) && pr i
theorem dp_b {P : Nat → Bool} {w : Nat → Nat} (hw : ∀ j, 1 ≤ w j) : ∀ m, (dpM P w m).1 ≤ m ∧ (dpM P w m).2 ≤ 1000000 + m := by
  intro m
  induction m with
  | zero => exact ⟨Nat.le_refl _, Nat.le_refl _⟩
  | succ m ih =>
    have x1 := mn_le ((dpM P w m).1 + 1) ((dpM P w m).2 + cq1 (decide (1 < w m)))
    have x2 := mn_le ((dpM P w m).1 + cq1 (decide (1 < w m))) ((dpM P w m).2 + cq1 (decide (2 < w m)))
    have x3 := cq1_le (decide (1 < w m))
    show (if P m = true then (if P (m + 1) = true then (mn ((dpM P w m).1 + cq1 (decide (1 < w m))) ((dpM P w m).2 + cq1 (decide (2 < w m))), mn ((dpM P w m).1 + 1) ((dpM P w m).2 + cq1 (decide (1 < w m)))) else (mn ((dpM P w m).1 + 1) ((dpM P w m).2 + cq1 (decide (1 < w m))), 1000000)) else dpM P w m).1 ≤ _ ∧ (if P m = true then (if P (m + 1) = true then (mn ((dpM P w m).1 + cq1 (decide (1 < w m))) ((dpM P w m).2 + cq1 (decide (2 < w m))), mn ((dpM P w m).1 + 1) ((dpM P w m).2 + cq1 (decide (1 < w m)))) else (mn ((dpM P w m).1 + 1) ((dpM P w m).2 + cq1 (decide (1 < w m))), 1000000)) else dpM P w m).2 ≤ _
    by_cases g1 : P m = true
    · rw [if_pos g1]
      by_cases g2 : P (m + 1) = true
      · rw [if_pos g2]
        exact ⟨by show mn _ _ ≤ _; omega, by show mn _ _ ≤ _; omega⟩
      · rw [if_neg g2]
        exact ⟨by show mn _ _ ≤ _; omega, by show 1000000 ≤ _; omega⟩
    · rw [if_neg g1]
      omega
theorem cq1n (p : Prop) [Decidable p] (x : Nat) : (if p then nI x + 0 else nI x + 1) = nI (x + cq1 (decide (¬ p))) := by
  by_cases h : p
  · rw [if_pos h, decide_eq_false (by exact fun q => q h)]
    exact Int32.add_zero _
  · rw [if_neg h, decide_eq_true h]
    exact nI_1 x
theorem i_a0 (x : Int32) : x + 0 = x := Int32.add_zero x
theorem feC {a : Mem} {f z n : Nat} {y : Nat → Nat} {rk : Nat → Nat} {P : Nat → Bool} (hz : szOK n y) (hc : cSz a n y) (hf : f < n) (ez : y f = z) (hr : ∀ i, i < 16 → rk i ≤ 9 ∧ a 3 (96 * 3 + 16 * f + i) = nI (rk i)) (hP : P = prZ (preS a f) z) : ∀ (q i fu : Nat), i + q = z → q < fu → F_U_fewestToBegin_6 fu (nI f) (nI (dpM P (fun j => wlN (rk j)) i).1) (nI (dpM P (fun j => wlN (rk j)) i).2) (nI i) a = some (nI (mn (dpM P (fun j => wlN (rk j)) z).1 (dpM P (fun j => wlN (rk j)) z).2), a) := by
  have f6 : f < 6 := by have := hz.1; omega
  have z16 := (hz.2 f hf).2
  rw [ez] at z16
  have hs := H_size (s := a) (h0 := 2) (c := 4) rfl rfl rfl rfl f6
  rw [hc.2 f hf, ez] at hs
  have hw : ∀ j, 1 ≤ (fun j => wlN (rk j)) j := fun j => wlN_1 _
  intro q
  induction q with
  | zero =>
    intro i fu hi hfu
    obtain ⟨fu, rfl⟩ : ∃ k, fu = k + 1 := ⟨fu - 1, by omega⟩
    have : i = z := by omega
    subst this
    have b := dp_b hw (P := P) i
    rw [F_U_fewestToBegin_6, hs]
    simp only [Option.bind_some, if_pos (show nI i ≤ nI i from nI_le (Nat.le_refl i) (by omega))]
    rw [nmn (by omega) (by omega)]
    rfl
  | succ q ih =>
    intro i fu hi hfu
    obtain ⟨fu, rfl⟩ : ∃ k, fu = k + 1 := ⟨fu - 1, by omega⟩
    have hi' := ih (i + 1) fu (by omega) (by omega)
    have b := dp_b hw (P := P) i
    have m1 := mi_c (a := a) (f := f) (i := i) f6 (by omega)
    have w1 := wi_c (a := a) (f := f) (i := i) f6 (by omega) (hr i (by omega)).1 (hr i (by omega)).2
    have w9 := wlN_9 (hr i (by omega)).1
    have w0 := wlN_1 (rk i)
    have g1 : ¬ nI z ≤ nI i := nI_ge (by omega) (by omega)
    rw [← hi']
    have e : dpM P (fun j => wlN (rk j)) (i + 1) = if P i = true then (if P (i + 1) = true then (mn ((dpM P (fun j => wlN (rk j)) i).1 + cq1 (decide (1 < wlN (rk i)))) ((dpM P (fun j => wlN (rk j)) i).2 + cq1 (decide (2 < wlN (rk i)))), mn ((dpM P (fun j => wlN (rk j)) i).1 + 1) ((dpM P (fun j => wlN (rk j)) i).2 + cq1 (decide (1 < wlN (rk i))))) else (mn ((dpM P (fun j => wlN (rk j)) i).1 + 1) ((dpM P (fun j => wlN (rk j)) i).2 + cq1 (decide (1 < wlN (rk i)))), 1000000)) else dpM P (fun j => wlN (rk j)) i := rfl
    have ePi : P i = !decide (a 3 (96 * 4 + 16 * f + i) = 2) := by rw [hP]; show (decide (i < z) && _) = _; rw [decide_eq_true (show i < z by omega)]; rfl
    by_cases cm : a 3 (96 * 4 + 16 * f + i) = 2
    · rw [if_pos cm] at m1
      rw [decide_eq_true cm] at ePi
      have ePi : P i = false := ePi
      rw [e, if_neg (by rw [ePi]; decide)]
      rw [F_U_fewestToBegin_6, hs]
      simp only [Option.bind_some, if_neg g1, m1, one0, if_false, nI_1]
    · rw [if_neg cm] at m1
      rw [decide_eq_false cm] at ePi
      have ePi : P i = true := ePi
      rw [e, if_pos ePi]
      generalize (dpM P (fun j => wlN (rk j)) i) = D at b ⊢
      obtain ⟨x, v⟩ := D
      generalize wlN (rk i) = w at w1 w9 w0 ⊢
      have b1 : x ≤ i := b.1
      have b2 : v ≤ 1000000 + i := b.2
      have n0 : ¬ nI w ≤ 0 := nI_ge (b := w) (a := 0) (by omega) (by omega)
      -- is there a next one
      have hn2 : (P (i + 1) = true ∧ F_H_has2 (nI f) (nI (i + 1)) a = some (1, a) ∧ F_H_isMissing 2 (nI f) (nI (i + 1)) a = some (0, a)) ∨ (P (i + 1) = false ∧ (F_H_has2 (nI f) (nI (i + 1)) a = some (0, a) ∨ (F_H_has2 (nI f) (nI (i + 1)) a = some (1, a) ∧ F_H_isMissing 2 (nI f) (nI (i + 1)) a = some (1, a)))) := by
        rcases C_has2 hz hc (nI f) (nI (i + 1)) with ⟨f', i', h1, h2, h3, h4, h5⟩ | ⟨h1, h2⟩
        · have : f = f' := (nI_eq (by omega) (by have := hz.1; omega)).mp h3
          subst this
          have : i + 1 = i' := (nI_eq (by omega) (by omega)).mp h4
          subst this
          have m2 := mi_c (a := a) (f := f) (i := i + 1) f6 (by omega)
          have ePj : P (i + 1) = !decide (a 3 (96 * 4 + 16 * f + (i + 1)) = 2) := by rw [hP]; show (decide (i + 1 < z) && _) = _; rw [decide_eq_true (show i + 1 < z by omega)]; rfl
          by_cases cj : a 3 (96 * 4 + 16 * f + (i + 1)) = 2
          · rw [if_pos cj] at m2
            rw [decide_eq_true cj] at ePj
            exact Or.inr ⟨ePj, Or.inr ⟨h5, m2⟩⟩
          · rw [if_neg cj] at m2
            rw [decide_eq_false cj] at ePj
            exact Or.inl ⟨ePj, h5, m2⟩
        · refine Or.inr ⟨?_, Or.inl h2⟩
          have : ¬ i + 1 < z := fun q => h1 f (i + 1) hf (by omega) ⟨rfl, rfl⟩
          rw [hP]
          show (decide (i + 1 < z) && _) = _
          rw [decide_eq_false this]
          rfl
      have u0 := i_a0 (nI x)
      have v0 := i_a0 (nI v)
      rw [F_U_fewestToBegin_6, hs]
      simp only [Option.bind_some, if_neg g1, m1, if_true, w1, if_neg n0, nI_1]
      by_cases cq1' : w ≤ 1
      · have l1 : nI w ≤ 1 := nI_le (b := 1) cq1' (by decide)
        have l2 : nI w ≤ 2 := nI_le (b := 2) (by omega) (by decide)
        have d1 : cq1 (decide (1 < w)) = 0 := by rw [decide_eq_false (by omega)]; rfl
        have d2 : cq1 (decide (2 < w)) = 0 := by rw [decide_eq_false (by omega)]; rfl
        simp only [if_pos l1, if_pos l2, u0, v0, d1, d2, Nat.add_zero]
        rw [nmn (by omega) (by omega)]
        simp only [Option.bind_some]
        rw [nmn (by omega) (by omega)]
        simp only [Option.bind_some]
        rcases hn2 with ⟨p1, p2, p3⟩ | ⟨p1, p2 | ⟨p2, p3⟩⟩
        · rw [if_pos p1]; simp only [p2, p3, Option.bind_some, one0, if_false, if_true]
        · rw [p1]; simp only [p2, Option.bind_some, if_true, Bool.false_eq_true, if_false]; rfl
        · rw [p1]; simp only [p2, p3, Option.bind_some, one0, Bool.false_eq_true, if_false]; rfl
      · have l1 : ¬ nI w ≤ 1 := nI_ge (a := 1) (by omega) (by omega)
        have d1 : cq1 (decide (1 < w)) = 1 := by rw [decide_eq_true (by omega)]; rfl
        by_cases c2' : w ≤ 2
        · have l2 : nI w ≤ 2 := nI_le (b := 2) (by omega) (by decide)
          have d2 : cq1 (decide (2 < w)) = 0 := by rw [decide_eq_false (by omega)]; rfl
          simp only [if_neg l1, if_pos l2, u0, v0, d1, d2, Nat.add_zero]
          rw [nmn (by omega) (by omega)]
          simp only [Option.bind_some]
          rw [nmn (by omega) (by omega)]
          simp only [Option.bind_some]
          rcases hn2 with ⟨p1, p2, p3⟩ | ⟨p1, p2 | ⟨p2, p3⟩⟩
          · rw [if_pos p1]; simp only [p2, p3, Option.bind_some, one0, if_false, if_true]
          · rw [p1]; simp only [p2, Option.bind_some, if_true, Bool.false_eq_true, if_false]; rfl
          · rw [p1]; simp only [p2, p3, Option.bind_some, one0, Bool.false_eq_true, if_false]; rfl
        · have l2 : ¬ nI w ≤ 2 := nI_ge (a := 2) (by omega) (by omega)
          have d2 : cq1 (decide (2 < w)) = 1 := by rw [decide_eq_true (by omega)]; rfl
          simp only [if_neg l1, if_neg l2, d1, d2]
          have mA := nmn (x := x + 1) (y := v + 1) (by omega) (by omega) a
          simp only [mA, Option.bind_some]
          rcases hn2 with ⟨p1, p2, p3⟩ | ⟨p1, p2 | ⟨p2, p3⟩⟩
          · rw [if_pos p1]; simp only [p2, p3, Option.bind_some, one0, if_false, if_true]
          · rw [p1]; simp only [p2, Option.bind_some, if_true, Bool.false_eq_true, if_false]; rfl
          · rw [p1]; simp only [p2, p3, Option.bind_some, one0, Bool.false_eq_true, if_false]; rfl
/-! the reference: how it spreads -/
def SPR (w : Nat → Nat) (S T : Nat) : Prop := ∃ o : Nat → Bool, ∀ j, T.testBit j = true → S.testBit j = false → w j ≤ cq1 (decide (0 < j) && (T.testBit (j - 1) && o (j - 1))) + cq1 (T.testBit (j + 1) && !o j)
theorem SPR_0 (w : Nat → Nat) (S : Nat) : SPR w S S := ⟨fun _ => false, fun j h1 h2 => by rw [h1] at h2; exact absurd h2 (by decide)⟩
theorem SPR_s {w : Nat → Nat} {S T i : Nat} (h : SPR w S T) (ht : T.testBit i = false) (hb : w i ≤ bsT T i) : SPR w S (T ||| 2 ^ i) := by
  obtain ⟨o, ho⟩ := h
  refine ⟨fun j => if j = i then false else if j + 1 = i then true else o j, fun j h1 h2 => ?_⟩
  rw [or_bit] at h1
  by_cases c : j = i
  · subst c
    unfold bsT at hb
    have e1 : (T ||| 2 ^ j).testBit (j + 1) = T.testBit (j + 1) := by rw [or_bit, if_neg (by omega)]
    rw [e1]
    simp only [if_true, Bool.not_false, Bool.and_true]
    by_cases j0 : 0 < j
    · have e2 : (T ||| 2 ^ j).testBit (j - 1) = T.testBit (j - 1) := by rw [or_bit, if_neg (by omega)]
      rw [e2, if_neg (show ¬ j - 1 = j by omega), if_pos (show j - 1 + 1 = j by omega), Bool.and_true]
      omega
    · rw [decide_eq_false j0, Bool.false_and] at hb ⊢
      omega
  · rw [if_neg c] at h1
    have h3 := ho j h1 h2
    refine Nat.le_trans h3 (Nat.add_le_add ?_ ?_)
    · by_cases j0 : 0 < j
      · rw [decide_eq_true j0, Bool.true_and, Bool.true_and, or_bit]
        by_cases d : j - 1 = i
        · rw [d, ht]
          exact Nat.zero_le _
        · rw [if_neg d]
          show cq1 (_ && o (j - 1)) ≤ cq1 (_ && if j - 1 = i then false else if j - 1 + 1 = i then true else o (j - 1))
          rw [if_neg d, if_neg (by omega)]
          exact Nat.le_refl _
      · rw [decide_eq_false j0]
        exact Nat.le_refl _
    · rw [or_bit]
      by_cases d : j + 1 = i
      · rw [d, ht]
        exact Nat.zero_le _
      · rw [if_neg d]
        show cq1 (_ && !o j) ≤ cq1 (_ && !(if j = i then false else if j + 1 = i then true else o j))
        rw [if_neg c, if_neg d]
        exact Nat.le_refl _
/-- what holds of a set on its way -/
def SpQ (w : Nat → Nat) (P S T : Nat) : Prop := (∀ j, S.testBit j = true → T.testBit j = true) ∧ (∀ j, T.testBit j = true → P.testBit j = true) ∧ SPR w S T
theorem SpQ_s {w : Nat → Nat} {P S T i : Nat} (h : SpQ w P S T) (ht : T.testBit i = false) (hp : P.testBit i = true) (hb : w i ≤ bsT T i) : SpQ w P S (T ||| 2 ^ i) := by
  refine ⟨fun j hj => ?_, fun j hj => ?_, SPR_s h.2.2 ht hb⟩
  · rw [or_bit]
    split
    · rfl
    · exact h.1 j hj
  · rw [or_bit] at hj
    split at hj
    · rename_i c; rw [c]; exact hp
    · exact h.2.1 j hj
theorem sub_lt {T P : Nat} (hP : P < 65536) (h : ∀ j, T.testBit j = true → P.testBit j = true) : T < 65536 := by
  have : T &&& P = T := by
    apply Nat.eq_of_testBit_eq
    intro j
    rw [Nat.testBit_and]
    cases c : T.testBit j with
    | false => rfl
    | true => rw [h j c]; rfl
  rw [← this]
  exact Nat.lt_of_le_of_lt Nat.and_le_right hP
theorem bs_n {T i : Nat} (hT : T < 65536) (hi : i < 16) (h0 : 0 < i) : (shr (nI T) (nI (i + 1)) &&& 1) + (shr (nI T) (nI i - 1) &&& 1) = nI (bsT T i) := by
  obtain ⟨k, rfl⟩ : ∃ k, i = k + 1 := ⟨i - 1, by omega⟩
  rw [nI_pred, n_bit (by omega) (by omega), n_bit (by omega) (by omega), nI_add]
  unfold bsT
  rw [show k + 1 - 1 = k from rfl, decide_eq_true (show 0 < k + 1 by omega), Bool.true_and]
  cases T.testBit (k + 1 + 1) <;> cases T.testBit k <;> rfl
theorem bs_0 {T : Nat} (hT : T < 65536) : (shr (nI T) (nI (0 + 1)) &&& 1) + 0 = nI (bsT T 0) := by
  rw [n_bit (by omega) (by omega), i_a0]
  unfold bsT
  rw [decide_eq_false (Nat.lt_irrefl 0), Bool.false_and]
  cases T.testBit (0 + 1) <;> rfl
theorem bs_2 (T i : Nat) : bsT T i ≤ 2 := by
  unfold bsT
  have := cq1_le (T.testBit (i + 1))
  have := cq1_le (decide (0 < i) && T.testBit (i - 1))
  omega
theorem sp10 {b : Mem} {f z P S T0 : Nat} {rk : Nat → Nat} {k4 : Int32 → Int32 → Int32 → Int32 → Mem → Option (Int32 × Mem)} (hf : f < 6) (hz : z ≤ 16) (ez : b 127 f = nI z) (hP : P < 65536) (hPz : ∀ j, P.testBit j = true → j < z) (hr : ∀ i, i < 16 → rk i ≤ 9 ∧ b 124 (197 + 16 * f + i) = nI (rk i)) : ∀ (q i fu T : Nat) (fl : Int32), i + q = z → q < fu → SpQ (fun j => wlN (rk j)) P S T → ((fl = 0 ∧ T = T0 ∧ ∀ j, j < i → P.testBit j = true → T0.testBit j = false → bsT T0 j < wlN (rk j)) ∨ (fl = 1 ∧ pc 16 T0 < pc 16 T)) → ∃ (T' : Nat) (fl' : Int32), F_R_spreads_10 k4 fu (nI f) (nI P) (nI T) fl (nI i) b = k4 (nI f) (nI P) (nI T') fl' b ∧ SpQ (fun j => wlN (rk j)) P S T' ∧ ((fl' = 0 ∧ T' = T0 ∧ ∀ j, P.testBit j = true → T0.testBit j = false → bsT T0 j < wlN (rk j)) ∨ (fl' = 1 ∧ pc 16 T0 < pc 16 T')) := by
  have lz : ld b 127 (nI f) = some (nI z) := (ld_in rfl (show f < 6 from hf) (by decide)).trans (congrArg some ez)
  intro q
  induction q with
  | zero =>
    intro i fu T fl hi hfu hQ hfl
    obtain ⟨fu, rfl⟩ : ∃ k, fu = k + 1 := ⟨fu - 1, by omega⟩
    have : i = z := by omega
    subst this
    refine ⟨T, fl, ?_, hQ, ?_⟩
    · rw [F_R_spreads_10, lz]
      simp only [Option.bind_some, if_pos (show nI i ≤ nI i from nI_le (Nat.le_refl i) (by omega))]
    · rcases hfl with ⟨h1, h2, h3⟩ | h
      · exact Or.inl ⟨h1, h2, fun j hj => h3 j (hPz j hj) hj⟩
      · exact Or.inr h
  | succ q ih =>
    intro i fu T fl hi hfu hQ hfl
    obtain ⟨fu, rfl⟩ : ∃ k, fu = k + 1 := ⟨fu - 1, by omega⟩
    have hT := sub_lt hP hQ.2.1
    have g1 : ¬ nI z ≤ nI i := nI_ge (by omega) (by omega)
    have t1 := R_has (a := T) (k := i) (by omega) (by omega) b
    have p1 := R_has (a := P) (k := i) (by omega) (by omega) b
    have same : (T.testBit i = true ∨ ¬ P.testBit i = true ∨ bsT T i < wlN (rk i)) → F_R_spreads_10 k4 (fu + 1) (nI f) (nI P) (nI T) fl (nI i) b = F_R_spreads_10 k4 fu (nI f) (nI P) (nI T) fl (nI (i + 1)) b → ∃ (T' : Nat) (fl' : Int32), F_R_spreads_10 k4 (fu + 1) (nI f) (nI P) (nI T) fl (nI i) b = k4 (nI f) (nI P) (nI T') fl' b ∧ SpQ (fun j => wlN (rk j)) P S T' ∧ ((fl' = 0 ∧ T' = T0 ∧ ∀ j, P.testBit j = true → T0.testBit j = false → bsT T0 j < wlN (rk j)) ∨ (fl' = 1 ∧ pc 16 T0 < pc 16 T')) := fun hh e => by
      rw [e]
      refine ih (i + 1) fu T fl (by omega) (by omega) hQ ?_
      rcases hfl with ⟨h1, h2, h3⟩ | h
      · refine Or.inl ⟨h1, h2, fun j hj hp ht => ?_⟩
        by_cases c : j = i
        · subst c
          subst h2
          rcases hh with k | k | k
          · rw [ht] at k; exact absurd k (by decide)
          · exact absurd hp k
          · exact k
        · exact h3 j (by omega) hp ht
      · exact Or.inr h
    have lr : ld b 124 (197 + 16 * nI f + nI i) = some (nI (rk i)) := by
      rw [show (197 : Int32) = nI 197 from rfl, show (16 : Int32) = nI 16 from rfl, n_mul, nI_add, nI_add]
      exact (ld_in rfl (show 197 + 16 * f + i < 773 by omega) (by decide)).trans (congrArg some (hr i (by omega)).2)
    have gr := gr_r (hr i (by omega)).1 b
    have w9 := wlN_9 (hr i (by omega)).1
    have b2 := bs_2 T i
    by_cases ct : T.testBit i = true
    · refine same (Or.inl ct) ?_
      rw [if_pos ct] at t1
      rw [F_R_spreads_10, lz]
      simp only [Option.bind_some, if_neg g1, t1, one0, if_false, nI_1]
    · rw [if_neg ct] at t1
      by_cases cp : P.testBit i = true
      · rw [if_pos cp] at p1
        have step : F_R_spreads_10 k4 (fu + 1) (nI f) (nI P) (nI T) fl (nI i) b = if nI (wlN (rk i)) ≤ nI (bsT T i) then F_R_spreads_10 k4 fu (nI f) (nI P) (nI T ||| shl 1 (nI i)) 1 (nI (i + 1)) b else F_R_spreads_10 k4 fu (nI f) (nI P) (nI T) fl (nI (i + 1)) b := by
          rw [F_R_spreads_10, lz]
          simp only [Option.bind_some, if_neg g1, t1, p1, one0, if_true, if_false, lr, gr, nI_1]
          by_cases i0 : i = 0
          · subst i0
            rw [if_pos (show nI 0 ≤ 0 by decide), bs_0 hT]
          · rw [if_neg (nI_nle (show 0 < i by omega) (by omega)), bs_n hT (by omega) (by omega)]
        by_cases cb : wlN (rk i) ≤ bsT T i
        · rw [if_pos (nI_le cb (by omega)), n_shl1 (by omega), fa_or] at step
          rw [step]
          have ct' : T.testBit i = false := by cases h : T.testBit i with | true => exact absurd h ct | false => rfl
          have hpc := pc_set (B := T) (w := i) (by omega) ct'
          refine ih (i + 1) fu (T ||| 2 ^ i) 1 (by omega) (by omega) (SpQ_s hQ ct' cp cb) (Or.inr ⟨rfl, ?_⟩)
          rcases hfl with ⟨h1, h2, h3⟩ | ⟨-, h⟩
          · subst h2; omega
          · omega
        · rw [if_neg (nI_ge (by omega) (by omega))] at step
          exact same (Or.inr (Or.inr (by omega))) step
      · rw [if_neg cp] at p1
        refine same (Or.inr (Or.inl cp)) ?_
        rw [F_R_spreads_10, lz]
        simp only [Option.bind_some, if_neg g1, t1, p1, if_true, nI_1]
theorem sp4 {b : Mem} {f z P S : Nat} {rk : Nat → Nat} (hf : f < 6) (hz : z ≤ 16) (ez : b 127 f = nI z) (hP : P < 65536) (hPz : ∀ j, P.testBit j = true → j < z) (hr : ∀ i, i < 16 → rk i ≤ 9 ∧ b 124 (197 + 16 * f + i) = nI (rk i)) : ∀ (q fu T : Nat), 17 ≤ pc 16 T + q → q + 1 < fu → SpQ (fun j => wlN (rk j)) P S T → ∃ T' : Nat, F_R_spreads_4 fu (nI f) (nI P) (nI T) 1 b = some (nI T', b) ∧ SpQ (fun j => wlN (rk j)) P S T' ∧ ∀ j, P.testBit j = true → T'.testBit j = false → bsT T' j < wlN (rk j) := by
  intro q
  induction q with
  | zero =>
    intro fu T h1
    have := pc_16 T
    omega
  | succ q ih =>
    intro fu T h1 hfu hQ
    obtain ⟨fu, rfl⟩ : ∃ k, fu = k + 1 := ⟨fu - 1, by omega⟩
    obtain ⟨T', fl', e, hQ', hh⟩ := sp10 (k4 := F_R_spreads_4 fu) (T0 := T) hf hz ez hP hPz hr z 0 gF T 0 (by omega) (by rw [gF_eq]; omega) hQ (Or.inl ⟨rfl, rfl, fun j hj => absurd hj (Nat.not_lt_zero j)⟩)
    have e : F_R_spreads_10 (F_R_spreads_4 fu) gF (nI f) (nI P) (nI T) 0 0 b = F_R_spreads_4 fu (nI f) (nI P) (nI T') fl' b := e
    rw [F_R_spreads_4, if_neg (by decide), e]
    rcases hh with ⟨k1, k2, k3⟩ | ⟨k1, k2⟩
    · subst k1
      subst k2
      refine ⟨T', ?_, hQ', k3⟩
      obtain ⟨fu, rfl⟩ : ∃ k, fu = k + 1 := ⟨fu - 1, by omega⟩
      rw [F_R_spreads_4, if_pos rfl]
    · subst k1
      exact ih fu T' (by omega) (by omega) hQ'
