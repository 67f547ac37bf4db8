theorem C_abs {z : Int} (h1 : -1000 ≤ z) (h2 : z ≤ 1000) (s : Mem) : F_JM_abs (iI z) s = some (nI z.natAbs, s) := by
  unfold F_JM_abs
  have e : (0 ≤ iI z) ↔ 0 ≤ z := by
    rw [fa_le, iI_toInt (by omega) (by omega)]
    exact Iff.rfl
  by_cases c : 0 ≤ z
  · rw [if_pos (e.mpr c), iI_nI, show ((z.natAbs : Nat) : Int) = z by omega]
  · rw [if_neg (fun q => c (e.mp q)), iI_neg, iI_nI, show ((z.natAbs : Nat) : Int) = -z by omega]
theorem g_winds (x y : Int32) : Good Inv (F_C_winds x y) (F_R_winds x y) := by
  intro s h
  by_cases h1 : -100 ≤ x ∧ x ≤ 100
  · by_cases h2 : -100 ≤ y ∧ y ≤ 100
    · have hx : -100 ≤ x.toInt ∧ x.toInt ≤ 100 := ⟨(fa_le _ _).mp h1.1, (fa_le _ _).mp h1.2⟩
      have hy : -100 ≤ y.toInt ∧ y.toInt ≤ 100 := ⟨(fa_le _ _).mp h2.1, (fa_le _ _).mp h2.2⟩
      have ex := iI_of x
      have ey := iI_of y
      generalize x.toInt = X at *
      generalize y.toInt = Y at *
      subst ex
      subst ey
      obtain ⟨g, hg⟩ : ∃ g : Nat, g = (if X.natAbs < Y.natAbs then Y.natAbs else X.natAbs) := ⟨_, rfl⟩
      have hgX : -(g : Int) ≤ X ∧ X ≤ g := by rw [hg]; split <;> omega
      have hgY : -(g : Int) ≤ Y ∧ Y ≤ g := by rw [hg]; split <;> omega
      have hgm : X = g ∨ X = -g ∨ Y = g ∨ Y = -g := by rw [hg]; split <;> omega
      have hg100 : g ≤ 100 := by rw [hg]; split <;> omega
      have hmax : (if nI X.natAbs < nI Y.natAbs then nI Y.natAbs else nI X.natAbs) = nI g := by
        rw [hg]
        by_cases c : X.natAbs < Y.natAbs
        · rw [if_pos (nI_lt c (by omega)), if_pos c]
        · rw [if_neg (nI_nlt (by omega) (by omega)), if_neg c]
      have cC : F_C_winds (iI X) (iI Y) s = (F_D_spiralStep (iI X) (iI Y) s).bind fun z => some (z.1, z.2) := by
        simp only [F_C_winds, C_within, Option.bind_some, b01, h1, h2, and_self, not_true_eq_false, if_false, one0]
      have cM : F_R_winds (iI X) (iI Y) s = (F_R_walksSpiral 100000000 (iI X) (iI Y) (mw s 123 0 0)).bind fun z => some (z.1, z.2) := by
        simp only [F_R_winds, R_isIn, Option.bind_some, b01, h1, h2, and_self, not_true_eq_false, if_false, one0]
      clear hg
      -- the place's number, and that it is the first
      have main : ∀ (K a : Nat), okA K g a → K ≤ 100000 → px g a = X → py g a = Y → F_D_spiralStep (iI X) (iI Y) s = some (nI K, s) → ∃ (v : Int32) (s1 s2 : Mem), F_C_winds (iI X) (iI Y) s = some (v, s1) ∧ F_R_winds (iI X) (iI Y) s1 = some (v, s2) ∧ Inv s2 := by
        intro K a hok hK hpx hpy hc
        obtain ⟨g', a', h3, h4⟩ := R_walk (N := 100000000) (X := iI X) (Y := iI Y) (s := mw s 123 0 0) (K := K) hK (fun k hk => nI_ge (b := 100000000) (by omega) (by decide)) (fun k g1 a1 hk hok1 => by
          rintro ⟨q1, q2⟩
          have hb := px_b hok1
          have hg1 := okA_b hok1
          rw [iI_eq (by omega) (by omega) (by omega) (by omega)] at q1 q2
          obtain ⟨u1, u2⟩ := pos_inj ⟨hok1.2.1, hok1.2.2⟩ ⟨hok.2.1, hok.2.2⟩ (q1.trans hpx.symm) (q2.trans hpy.symm)
          have k1 := hok1.1
          have k2 := hok.1
          rw [u1, u2] at k1
          omega) (fun g1 a1 hok1 => by
          obtain ⟨u1, u2⟩ := okA_u hok1 hok
          rw [u1, u2, hpx, hpy]
          exact Or.inr ⟨rfl, rfl⟩)
        refine ⟨nI K, s, wS (mw s 123 0 0) (iI (px g' a')) (iI (py g' a')), ?_, ?_, wS_I (Inv_t h)⟩
        · rw [cC, hc]
          rfl
        · rw [cM, h4]
          rfl
      by_cases hg0 : g = 0
      · subst hg0
        refine main 0 0 okA_0 (by decide) ?_ ?_ ?_
        · have : X = 0 := by omega
          rw [this]; rfl
        · have : Y = 0 := by omega
          rw [this]; rfl
        · simp only [F_D_spiralStep, C_abs (show -1000 ≤ X by omega) (show X ≤ 1000 by omega), C_abs (show -1000 ≤ Y by omega) (show Y ≤ 1000 by omega), Option.bind_some, C_max, hmax]
          rw [if_pos (show nI 0 = 0 from rfl)]
          rfl
      · obtain ⟨a, a1, a2, a3, a4, a5⟩ := pos_ex X Y g hgX hgY hgm (by omega)
        have hgg : g ≤ g * g := Nat.le_mul_self g
        have hg1 : g * g ≤ 100 * 100 := Nat.mul_le_mul hg100 hg100
        have hr := rgS2_eq (g := g) (by omega)
        refine main (4 * (g * g) + a - 4 * g) a ⟨by omega, a2, Or.inl a1⟩ (by omega) a3 a4 ?_
        simp only [F_D_spiralStep, C_abs (show -1000 ≤ X by omega) (show X ≤ 1000 by omega), C_abs (show -1000 ≤ Y by omega) (show Y ≤ 1000 by omega), Option.bind_some, C_max, hmax, if_neg (nI_ne0 (show 0 < g by omega) (show g < 2 ^ 31 by omega)), D_ring (show 1 ≤ g by omega)]
        have n1 : nI (rgS2 g) - 1 = iI ((rgS2 g : Int) - 1) := by
          rw [iI_nI]
          exact iI_sub _ 1
        have n7 : (7 : Int32) * nI g = iI (7 * g) := by
          rw [iI_nI]
          exact iI_mul 7 _
        have n3 : (3 : Int32) * nI g = iI (3 * g) := by
          rw [iI_nI]
          exact iI_mul 3 _
        have n5 : (5 : Int32) * nI g = iI (5 * g) := by
          rw [iI_nI]
          exact iI_mul 5 _
        have eK : nI (4 * (g * g) + a - 4 * g) = iI ((rgS2 g : Int) - 1 + a) := by
          rw [iI_nI]
          congr 1
          omega
        rw [n1, n7, n3, n5, eK, iI_nI g, iI_neg]
        have q1 : (iI Y = iI (-(g : Int))) ↔ Y = -g := iI_eq (by omega) (by omega) (by omega) (by omega)
        have q2 : (iI X = iI (g : Int)) ↔ X = g := iI_eq (by omega) (by omega) (by omega) (by omega)
        have q3 : (iI Y = iI (g : Int)) ↔ Y = g := iI_eq (by omega) (by omega) (by omega) (by omega)
        simp only [iI_add, iI_sub]
        rcases a5 with ⟨c1, c2⟩ | ⟨c1, c2, c3⟩ | ⟨c1, c2, c3, c4⟩ | ⟨c1, c2, c3, c4⟩
        · rw [if_pos (q1.mpr c1), show (rgS2 g : Int) - 1 + 7 * g + X = (rgS2 g : Int) - 1 + a by omega]
        · rw [if_neg (fun z => c1 (q1.mp z)), if_pos (q2.mpr c2), show (rgS2 g : Int) - 1 + g + Y = (rgS2 g : Int) - 1 + a by omega]
        · rw [if_neg (fun z => c1 (q1.mp z)), if_neg (fun z => c2 (q2.mp z)), if_pos (q3.mpr c3), show (rgS2 g : Int) - 1 + 3 * g - X = (rgS2 g : Int) - 1 + a by omega]
        · rw [if_neg (fun z => c1 (q1.mp z)), if_neg (fun z => c2 (q2.mp z)), if_neg (fun z => c3 (q3.mp z)), show (rgS2 g : Int) - 1 + 5 * g - Y = (rgS2 g : Int) - 1 + a by omega]
    · refine ⟨-1, s, mw s 123 0 0, ?_, ?_, Inv_t h⟩
      · simp only [F_C_winds, C_within, Option.bind_some, b01, h1, h2, and_self, not_true_eq_false, not_false_eq_true, if_false, if_true, one0]
      · simp only [F_R_winds, R_isIn, Option.bind_some, b01, h1, h2, and_self, not_true_eq_false, not_false_eq_true, if_false, if_true, one0]
  · refine ⟨-1, s, mw s 123 0 0, ?_, ?_, Inv_t h⟩
    · simp only [F_C_winds, C_within, Option.bind_some, b01, h1, not_false_eq_true, if_true]
    · simp only [F_R_winds, R_isIn, Option.bind_some, b01, h1, not_false_eq_true, if_true]
