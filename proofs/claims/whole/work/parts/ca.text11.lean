/-! ===== text: all lines ===== -/
theorem no_b {a : Mem} {L : List (Nat × Nat × Nat × Nat)} {j w : Nat} {x2 x3 x4 : Int32} (hA : ATt a L j) (h66 : (tkN L j).1 ≤ 66) (hw : w ≤ 66) (hk : (tkN L j).1 ≠ w) : F_P_readBounded (nI w) x2 x3 x4 a = some (0, flM a L j 1) := by
  rw [F_P_readBounded, takeE hA (nI w), if_neg (fun q => hk ((nI_eq (by omega) (by omega)).mp q))]
  simp only [Option.bind_some, if_true]
theorem noO {a : Mem} {L : List (Nat × Nat × Nat × Nat)} {j : Nat} (hA : ATt a L j) (h66 : (tkN L j).1 ≤ 66) (hk : (tkN L j).1 ≠ 18) : lnX F_P_readOrder a = some (0, flM a L j 1) := by
  have h : F_P_readBounded 18 0 0 999 a = some (0, flM a L j 1) := no_b hA h66 (by decide) hk
  simp only [lnX, F_P_readOrder, F_P_readNight, h, Option.bind_some, b0a, if_true]
theorem noV {a : Mem} {L : List (Nat × Nat × Nat × Nat)} {j : Nat} (hA : ATt a L j) (h66 : (tkN L j).1 ≤ 66) (hk : (tkN L j).1 ≠ 18) : lnX F_P_readVisit a = some (0, flM a L j 1) := by
  have h : F_P_readBounded 18 0 0 999 a = some (0, flM a L j 1) := no_b hA h66 (by decide) hk
  simp only [lnX, F_P_readVisit, F_P_readNight, h, Option.bind_some, b0a, if_true]
theorem noD {a : Mem} {L : List (Nat × Nat × Nat × Nat)} {j : Nat} (hA : ATt a L j) (h66 : (tkN L j).1 ≤ 66) (hk : (tkN L j).1 ≠ 19) : lnX F_P_readDoor a = some (0, flM a L j 1) := by
  have h : F_P_take 19 a = some (if nI (tkN L j).1 = nI 19 then (1, avM a j) else (0, flM a L j 1)) := takeE hA (nI 19)
  rw [if_neg (fun q => hk ((nI_eq (by omega) (by decide)).mp q))] at h
  simp only [lnX, F_P_readDoor, F_P_readFlight, h, Option.bind_some, if_true]
theorem fullE {a : Mem} {m : Nat} (h : a 88 1 = nI m) (hm : m ≤ 16) : F_N_isFull a = some (if m = 16 then 1 else 0, a) := by
  rw [F_N_isFull, h, C_within]
  simp only [Option.bind_some]
  by_cases c : m = 16
  · subst c
    rw [if_pos rfl, if_neg (show ¬ ((0 : Int32) ≤ nI 16 ∧ nI 16 ≤ 15) by decide), if_pos rfl]
  · rw [if_neg c, if_pos (show (0 : Int32) ≤ nI m ∧ nI m ≤ 15 from ⟨nI_pos' (by omega), nI_le (b := 15) (by omega) (by decide)⟩), if_neg (show ¬ (1 : Int32) = 0 by decide)]
/-- the class's loop: a line, by kind -/
def csW (X : Int32) (wd : Nat) (FC : Mem → Option (Int32 × Mem)) : Prop := ∀ (n m : Nat) (a : Mem) (L : List (Nat × Nat × Nat × Nat)) (j : Nat), ATt a L j → (tkN L j).1 ≤ 66 → m ≤ 16 → a 88 1 = nI m → F_P_readLines_6 (n + 1) X (nI m) a = if (tkN L j).1 = 66 then some (1, a) else if (tkN L j).1 = wd ∧ m = 16 then some (0, flM a L j 3) else (lnX FC a).bind fun y => if y.1 = 0 then some (0, y.2) else F_P_readLines_6 n X (nI (m + 1)) (mw y.2 88 1 (y.2 88 1 + 1))
theorem m16 {m : Nat} (h : m ≤ 16) : ¬ (16 : Int32) < nI m := nI_nlt (a := 16) (b := m) h (by decide)
theorem cs1 : csW 1 18 F_P_readOrder := by
  intro n m a L j hA h66 hm h88
  have kd1 := kindE hA
  have n66 : nI (tkN L j).1 = 66 ↔ (tkN L j).1 = 66 := nI_eq (b := 66) (by omega) (by decide)
  have n18 : nI (tkN L j).1 = 18 ↔ (tkN L j).1 = 18 := nI_eq (b := 18) (by omega) (by decide)
  have l := ln_b F_P_readOrder a (fun s => F_P_readLines_6 n 1 (nI (m + 1)) (mw s 88 1 (s 88 1 + 1)))
  rw [F_P_readLines_6, if_neg (m16 hm), kd1]
  simp only [Option.bind_some, kd1, show ((1 : Int32) = 3) = False by decide, if_false, if_true, fullE h88 hm, nI_1]
  by_cases c66 : (tkN L j).1 = 66
  · rw [if_pos (n66.mpr c66), if_pos c66]
  · rw [if_neg (fun q => c66 (n66.mp q)), if_neg c66]
    by_cases c18 : (tkN L j).1 = 18
    · rw [if_pos (n18.mpr c18)]
      by_cases c16 : m = 16
      · rw [if_pos c16, if_neg (show ¬ (1 : Int32) = 0 by decide), if_pos (show (tkN L j).1 = 18 ∧ m = 16 from ⟨c18, c16⟩)]
        simp only [failE hA, Option.bind_some, b0a, if_true]
      · rw [if_neg c16, if_pos (show (0 : Int32) = 0 from rfl), if_neg (show ¬ ((tkN L j).1 = 18 ∧ m = 16) from fun q => c16 q.2)]
        exact l
    · rw [if_neg (fun q => c18 (n18.mp q)), if_neg (fun q => c18 q.1)]
      exact l
theorem cs2 : csW 2 18 F_P_readVisit := by
  intro n m a L j hA h66 hm h88
  have kd1 := kindE hA
  have n66 : nI (tkN L j).1 = 66 ↔ (tkN L j).1 = 66 := nI_eq (b := 66) (by omega) (by decide)
  have n18 : nI (tkN L j).1 = 18 ↔ (tkN L j).1 = 18 := nI_eq (b := 18) (by omega) (by decide)
  have l := ln_b F_P_readVisit a (fun s => F_P_readLines_6 n 2 (nI (m + 1)) (mw s 88 1 (s 88 1 + 1)))
  rw [F_P_readLines_6, if_neg (m16 hm), kd1]
  simp only [Option.bind_some, kd1, show ((2 : Int32) = 3) = False by decide, show ((2 : Int32) = 1) = False by decide, if_false, if_true, fullE h88 hm, nI_1]
  by_cases c66 : (tkN L j).1 = 66
  · rw [if_pos (n66.mpr c66), if_pos c66]
  · rw [if_neg (fun q => c66 (n66.mp q)), if_neg c66]
    by_cases c18 : (tkN L j).1 = 18
    · rw [if_pos (n18.mpr c18)]
      by_cases c16 : m = 16
      · rw [if_pos c16, if_neg (show ¬ (1 : Int32) = 0 by decide), if_pos (show (tkN L j).1 = 18 ∧ m = 16 from ⟨c18, c16⟩)]
        simp only [failE hA, Option.bind_some, b0a, if_true]
      · rw [if_neg c16, if_pos (show (0 : Int32) = 0 from rfl), if_neg (show ¬ ((tkN L j).1 = 18 ∧ m = 16) from fun q => c16 q.2)]
        exact l
    · rw [if_neg (fun q => c18 (n18.mp q)), if_neg (fun q => c18 q.1)]
      exact l
theorem cs3 : csW 3 19 F_P_readDoor := by
  intro n m a L j hA h66 hm h88
  have kd1 := kindE hA
  have n66 : nI (tkN L j).1 = 66 ↔ (tkN L j).1 = 66 := nI_eq (b := 66) (by omega) (by decide)
  have n19 : nI (tkN L j).1 = 19 ↔ (tkN L j).1 = 19 := nI_eq (b := 19) (by omega) (by decide)
  have l := ln_b F_P_readDoor a (fun s => F_P_readLines_6 n 3 (nI (m + 1)) (mw s 88 1 (s 88 1 + 1)))
  rw [F_P_readLines_6, if_neg (m16 hm), kd1]
  simp only [Option.bind_some, kd1, show ((3 : Int32) = 1) = False by decide, show ((3 : Int32) = 2) = False by decide, if_false, if_true, fullE h88 hm, nI_1]
  by_cases c66 : (tkN L j).1 = 66
  · rw [if_pos (n66.mpr c66), if_pos c66]
  · rw [if_neg (fun q => c66 (n66.mp q)), if_neg c66]
    by_cases c19 : (tkN L j).1 = 19
    · rw [if_pos (n19.mpr c19)]
      by_cases c16 : m = 16
      · rw [if_pos c16, if_neg (show ¬ (1 : Int32) = 0 by decide), if_pos (show (tkN L j).1 = 19 ∧ m = 16 from ⟨c19, c16⟩)]
        simp only [failE hA, Option.bind_some, b0a, if_true]
      · rw [if_neg c16, if_pos (show (0 : Int32) = 0 from rfl), if_neg (show ¬ ((tkN L j).1 = 19 ∧ m = 16) from fun q => c16 q.2)]
        exact l
    · rw [if_neg (fun q => c19 (n19.mp q)), if_neg (fun q => c19 q.1)]
      exact l
/-- the reference's loop -/
def rsT (LR : Nat → Int32 → Mem → Option (Int32 × Mem)) (wd : Nat) (FR : Int32 → Mem → Option (Int32 × Mem)) (p : Nat → Nat) : Prop := ∀ (n m : Nat) (b : Mem), LR (n + 1) (nI m) b = (F_R_isWord (nI wd) b).bind fun z1 => if z1.1 = 0 then (if z1.2 123 14 = 0 then some (nI m, z1.2) else (F_R_errs 1 z1.2).bind fun z2 => some (z2.1, z2.2)) else if nI m = 16 then (F_R_errs 3 z1.2).bind fun z3 => some (z3.1, z3.2) else (FR (nI (p m)) z1.2).bind fun z4 => if z4.1 = -1 then some (-1, z4.2) else LR n (nI (m + 1)) z4.2
theorem rs1 : rsT F_R_readOrders_2 18 F_R_readOrder (fun m => 48 + 3 * m) := fun n m b => by
  rw [F_R_readOrders_2, ← nI_1 m, ← nI_add 48 (3 * m), ← n_mul 3 m]
  rfl
theorem rs2 : rsT F_R_readVisits_2 18 F_R_readVisit (fun m => 80 + 5 * m) := fun n m b => by
  rw [F_R_readVisits_2, ← nI_1 m, ← nI_add 80 (5 * m), ← n_mul 5 m]
  rfl
theorem rs3 : rsT F_R_readDoors_2 19 F_R_readDoor (fun m => 32 + 2 * m) := fun n m b => by
  rw [F_R_readDoors_2, ← nI_1 m, ← nI_add 32 (2 * m), ← n_mul 2 m]
  rfl
theorem lnL {X : Int32} {wd cell y g n : Nat} {z t p : Nat → Nat} {FC : Mem → Option (Int32 × Mem)} {FR : Int32 → Mem → Option (Int32 × Mem)} {LR : Nat → Int32 → Mem → Option (Int32 × Mem)} {R : Mem → Mem → Nat → Prop} {L : List (Nat × Nat × Nat × Nat)} (hwd : wd < 30) (hC : csW X wd FC) (hR : rsT LR wd FR p) (hno : ∀ {a : Mem} {L : List (Nat × Nat × Nat × Nat)} {j : Nat}, ATt a L j → (tkN L j).1 ≤ 66 → (tkN L j).1 ≠ wd → lnX FC a = some (0, flM a L j 1)) (hJ : ∀ {a b : Mem} {j m : Nat}, ATt a L j → PSt b t n L j → a 88 1 = nI m → m < 16 → HZ a b g z → (∃ j' a' b', j < j' ∧ lnX FC a = some (1, a') ∧ FR (nI (p m)) b = some (0, b') ∧ ATt a' L j' ∧ PSt b' t n L j' ∧ lnF a b a' b' m cell (p m) y ∧ R a' b' m) ∨ ∃ a' b', lnX FC a = some (0, a') ∧ FR (nI (p m)) b = some (-1, b') ∧ flY a b a' b') (hp : ∀ l m, l < m → p l + y ≤ p m) (hRl : ∀ (a b a' b' : Mem) (l : Nat), (∀ k, 5 * l ≤ k → k < 5 * l + 5 → a' 89 k = a 89 k) → (∀ k, p l ≤ k → k < p l + y → b' cell k = b cell k) → R a b l → R a' b' l) : ∀ (q j m fu fu' : Nat) (a b : Mem), L.length ≤ j + q → q < fu → q < fu' → ATt a L j → PSt b t n L j → a 88 1 = nI m → m ≤ 16 → HZ a b g z → (∀ l, l < m → R a b l) → (∃ m' a' b', m' ≤ 16 ∧ F_P_readLines_6 fu X (nI m) a = some (1, a') ∧ LR fu' (nI m) b = some (nI m', b') ∧ a' 88 1 = nI m' ∧ (∀ l, l < m' → R a' b' l) ∧ frA a a' ∧ frB b b') ∨ ∃ a' b', F_P_readLines_6 fu X (nI m) a = some (0, a') ∧ LR fu' (nI m) b = some (-1, b') ∧ flY a b a' b'
  | 0, j, m, fu, fu', a, b, hq, _, _, hA, _, _, _, _, _ => by
    have := hA.1
    omega
  | q + 1, j, m, fu, fu', a, b, hq, h1, h2, hA, hP, h88, hm, hH, hl => by
    obtain ⟨f, rfl⟩ : ∃ f, fu = f + 1 := ⟨fu - 1, by omega⟩
    obtain ⟨f', rfl⟩ : ∃ f', fu' = f' + 1 := ⟨fu' - 1, by omega⟩
    have k66 := tk_ne hP
    have ec := hC f m a L j hA k66 hm h88
    have er := hR f' m b
    have iw := isWE hP hwd
    rw [iw] at er
    simp only [Option.bind_some] at er
    have n0 := (isNE hP).2.1
    by_cases c66 : (tkN L j).1 = 66
    · rw [if_pos c66] at ec
      rw [if_neg (show ¬ (tkN L j).1 = wd by omega), if_pos rfl, if_pos (n0.mpr c66)] at er
      exact Or.inl ⟨m, a, b, hm, ec, er, h88, hl, frA_0 a, frB_0 b⟩
    · rw [if_neg c66] at ec
      by_cases cw : (tkN L j).1 = wd
      · rw [if_pos cw, if_neg (show ¬ (1 : Int32) = 0 by decide)] at er
        by_cases c16 : m = 16
        · rw [if_pos ⟨cw, c16⟩] at ec
          rw [if_pos (by rw [c16]; rfl), errE hP 3] at er
          exact Or.inr ⟨_, _, ec, er, flY_1⟩
        · rw [if_neg (fun k => c16 k.2)] at ec
          rw [if_neg (show ¬ nI m = 16 from fun k => c16 ((nI_eq (b := 16) (by omega) (by decide)).mp k))] at er
          rcases hJ hA hP h88 (by omega) hH with ⟨j', a', b', hj, g1, g2, g3, g4, g5, g6⟩ | ⟨a', b', g1, g2, g3⟩
          · rw [g1] at ec
            rw [g2] at er
            simp only [Option.bind_some, one0, if_false] at ec
            simp only [Option.bind_some] at er
            rw [if_neg (by decide)] at er
            have e88 : a' 88 1 = nI m := by rw [g5.2.2.1]; exact h88
            rw [e88, nI_1] at ec
            have A2 : ATt (mw a' 88 1 (nI (m + 1))) L j' := ATt_o g3 (mw_o (by decide)) (mw_o (by decide)) (mw_o (by decide)) (mw_o (by decide))
            have fA2 : frA a (mw a' 88 1 (nI (m + 1))) := frA_t g5.1 (frA_mw rfl (by decide))
            have hl2 : ∀ l, l < m + 1 → R (mw a' 88 1 (nI (m + 1))) b' l := fun l hlm => by
              by_cases cl : l = m
              · subst cl
                exact hRl a' b' _ _ l (fun k _ _ => by rw [mw_o (by decide)]) (fun _ _ _ => rfl) g6
              · have := hp l m (by omega)
                exact hRl a b _ _ l (fun k k1 k2 => by rw [mw_o (by decide)]; exact g5.2.2.2.1 k (by omega)) (fun k k1 k2 => g5.2.2.2.2 k (by omega)) (hl l (by omega))
            rcases lnL hwd hC hR hno hJ hp hRl q j' (m + 1) f f' (mw a' 88 1 (nI (m + 1))) b' (by omega) (by omega) (by omega) A2 g4 (mwSelf _ _ _ _) (by omega) (HZ_fr hH fA2 g5.2.1) hl2 with ⟨m', a2, b2, y1, y2, y3, y4, y5, y6, y7⟩ | ⟨a2, b2, y1, y2, y3⟩
            · exact Or.inl ⟨m', a2, b2, y1, ec.trans y2, er.trans y3, y4, y5, frA_t fA2 y6, frB_t g5.2.1 y7⟩
            · exact Or.inr ⟨a2, b2, ec.trans y1, er.trans y2, flY_t fA2 g5.2.1 y3⟩
          · rw [g1] at ec
            rw [g2] at er
            simp only [Option.bind_some, if_true] at ec er
            exact Or.inr ⟨a', b', ec, er, g3⟩
      · rw [if_neg (fun k => cw k.1), hno hA k66 cw] at ec
        rw [if_neg cw, if_pos rfl, if_neg (fun k => c66 (n0.mp k)), errE hP 1] at er
        simp only [Option.bind_some, if_true] at ec
        exact Or.inr ⟨_, _, ec, er, flY_1⟩
theorem ORl_c {g : Nat} {z : Nat → Nat} (a b a' b' : Mem) (l : Nat) (h1 : ∀ k, 5 * l ≤ k → k < 5 * l + 5 → a' 89 k = a 89 k) (h2 : ∀ k, 48 + 3 * l ≤ k → k < 48 + 3 * l + 3 → b' 140 k = b 140 k) (h : ORl g z a b l) : ORl g z a' b' l := by
  unfold ORl
  rw [h1 (5 * l) (by omega) (by omega), h1 (5 * l + 1) (by omega) (by omega), h1 (5 * l + 2) (by omega) (by omega), h1 (5 * l + 3) (by omega) (by omega), h2 (48 + 3 * l) (by omega) (by omega), h2 (48 + 3 * l + 1) (by omega) (by omega), h2 (48 + 3 * l + 2) (by omega) (by omega)]
  exact h
theorem VIl_c {g : Nat} (a b a' b' : Mem) (l : Nat) (h1 : ∀ k, 5 * l ≤ k → k < 5 * l + 5 → a' 89 k = a 89 k) (h2 : ∀ k, 80 + 5 * l ≤ k → k < 80 + 5 * l + 5 → b' 141 k = b 141 k) (h : VIl g a b l) : VIl g a' b' l := by
  unfold VIl
  rw [h1 (5 * l) (by omega) (by omega), h1 (5 * l + 1) (by omega) (by omega), h1 (5 * l + 2) (by omega) (by omega), h1 (5 * l + 3) (by omega) (by omega), h1 (5 * l + 4) (by omega) (by omega), h2 (80 + 5 * l) (by omega) (by omega), h2 (80 + 5 * l + 1) (by omega) (by omega), h2 (80 + 5 * l + 2) (by omega) (by omega), h2 (80 + 5 * l + 3) (by omega) (by omega), h2 (80 + 5 * l + 4) (by omega) (by omega)]
  exact h
theorem DOl_c {g : Nat} {z : Nat → Nat} (a b a' b' : Mem) (l : Nat) (h1 : ∀ k, 5 * l ≤ k → k < 5 * l + 5 → a' 89 k = a 89 k) (h2 : ∀ k, 32 + 2 * l ≤ k → k < 32 + 2 * l + 2 → b' 142 k = b 142 k) (h : DOl g z a b l) : DOl g z a' b' l := by
  unfold DOl
  rw [h1 (5 * l) (by omega) (by omega), h1 (5 * l + 1) (by omega) (by omega), h1 (5 * l + 2) (by omega) (by omega), h1 (5 * l + 3) (by omega) (by omega), h2 (32 + 2 * l) (by omega) (by omega), h2 (32 + 2 * l + 1) (by omega) (by omega)]
  exact h
/-- the lines of a kind are read, or both fail alike -/
def LnR (X : Int32) (LR : Mem → Option (Int32 × Mem)) (R : Mem → Mem → Nat → Prop) (a b : Mem) : Prop := (∃ m' a' b', m' ≤ 16 ∧ F_P_readLines X a = some (1, a') ∧ LR b = some (nI m', b') ∧ a' 88 1 = nI m' ∧ (∀ l, l < m' → R a' b' l) ∧ frA a a' ∧ frB b b') ∨ ∃ a' b', F_P_readLines X a = some (0, a') ∧ LR b = some (-1, b') ∧ flY a b a' b'
theorem lnA {X : Int32} {LR0 : Nat → Int32 → Mem → Option (Int32 × Mem)} {LR : Mem → Option (Int32 × Mem)} {R : Mem → Mem → Nat → Prop} {a b : Mem} (e : ∀ b, LR b = LR0 gF 0 b) (h : (∃ m' a' b', m' ≤ 16 ∧ F_P_readLines_6 gF X (nI 0) (mw a 88 1 0) = some (1, a') ∧ LR0 gF (nI 0) b = some (nI m', b') ∧ a' 88 1 = nI m' ∧ (∀ l, l < m' → R a' b' l) ∧ frA (mw a 88 1 0) a' ∧ frB b b') ∨ ∃ a' b', F_P_readLines_6 gF X (nI 0) (mw a 88 1 0) = some (0, a') ∧ LR0 gF (nI 0) b = some (-1, b') ∧ flY (mw a 88 1 0) b a' b') : LnR X LR R a b := by
  have f0 : frA a (mw a 88 1 0) := frA_mw rfl (by decide)
  rcases h with ⟨m', a', b', y1, y2, y3, y4, y5, y6, y7⟩ | ⟨a', b', y1, y2, y3⟩
  · exact Or.inl ⟨m', a', b', y1, y2, (e b).trans y3, y4, y5, frA_t f0 y6, y7⟩
  · exact Or.inr ⟨a', b', y1, (e b).trans y2, flY_t f0 (frB_0 b) y3⟩
theorem ln_pre {a b : Mem} {L : List (Nat × Nat × Nat × Nat)} {g : Nat} {z : Nat → Nat} (hA : ATt a L 0) (hH : HZ a b g z) : ATt (mw a 88 1 0) L 0 ∧ HZ (mw a 88 1 0) b g z ∧ L.length ≤ 0 + 401 ∧ 401 < gF := ⟨ATt_o hA (mw_o (by decide)) (mw_o (by decide)) (mw_o (by decide)) (mw_o (by decide)), HZ_fr hH (frA_mw rfl (by decide)) (frB_0 b), by have := hA.2.1; omega, by rw [gF_eq]; decide⟩
theorem lnO {a b : Mem} {t : Nat → Nat} {n g : Nat} {z : Nat → Nat} {L : List (Nat × Nat × Nat × Nat)} (hA : ATt a L 0) (hP : PSt b t n L 0) (hH : HZ a b g z) : LnR 1 F_R_readOrders (ORl g z) a b := by
  obtain ⟨h1, h2, h3, h4⟩ := ln_pre hA hH
  exact lnA (LR0 := F_R_readOrders_2) (fun _ => rfl) (lnL (p := fun m => 48 + 3 * m) (y := 3) (cell := 140) (wd := 18) (by decide) cs1 rs1 noO jO (fun l m h => by show 48 + 3 * l + 3 ≤ 48 + 3 * m; omega) ORl_c 401 0 0 gF gF (mw a 88 1 0) b h3 h4 h4 h1 hP (mwSelf _ _ _ _) (by decide) h2 (fun l hl => absurd hl (Nat.not_lt_zero l)))
theorem lnV {a b : Mem} {t : Nat → Nat} {n g : Nat} {z : Nat → Nat} {L : List (Nat × Nat × Nat × Nat)} (hA : ATt a L 0) (hP : PSt b t n L 0) (hH : HZ a b g z) : LnR 2 F_R_readVisits (VIl g) a b := by
  obtain ⟨h1, h2, h3, h4⟩ := ln_pre hA hH
  exact lnA (LR0 := F_R_readVisits_2) (fun _ => rfl) (lnL (p := fun m => 80 + 5 * m) (y := 5) (cell := 141) (wd := 18) (z := z) (by decide) cs2 rs2 noV jV (fun l m h => by show 80 + 5 * l + 5 ≤ 80 + 5 * m; omega) VIl_c 401 0 0 gF gF (mw a 88 1 0) b h3 h4 h4 h1 hP (mwSelf _ _ _ _) (by decide) h2 (fun l hl => absurd hl (Nat.not_lt_zero l)))
theorem lnD {a b : Mem} {t : Nat → Nat} {n g : Nat} {z : Nat → Nat} {L : List (Nat × Nat × Nat × Nat)} (hA : ATt a L 0) (hP : PSt b t n L 0) (hH : HZ a b g z) : LnR 3 F_R_readDoors (DOl g z) a b := by
  obtain ⟨h1, h2, h3, h4⟩ := ln_pre hA hH
  exact lnA (LR0 := F_R_readDoors_2) (fun _ => rfl) (lnL (p := fun m => 32 + 2 * m) (y := 2) (cell := 142) (wd := 19) (by decide) cs3 rs3 noD jD (fun l m h => by show 32 + 2 * l + 2 ≤ 32 + 2 * m; omega) DOl_c 401 0 0 gF gF (mw a 88 1 0) b h3 h4 h4 h1 hP (mwSelf _ _ _ _) (by decide) h2 (fun l hl => absurd hl (Nat.not_lt_zero l)))
