theorem n_divL {a b : Nat} (ha : a < 2 ^ 31) (hb : 0 < b) (hb2 : b < 2 ^ 31) {y : Int32} (hy : y = nI b) : nI a / y = nI (a / b) := by rw [hy]; exact n_div ha hb hb2
theorem n_irmL {a b : Nat} (ha : a < 2 ^ 31) (hb : 0 < b) (hb2 : b < 2 ^ 31) {y : Int32} (hy : y = nI b) : irm (nI a) y = nI (a % b) := by rw [hy]; exact n_irm ha hb hb2
def bxE (a b c : Nat) (j : Nat) : Nat := if j = 0 then a else if j = 1 then b else c
theorem bxS_eq (a b c d e : Nat) : bxS (bxE a b c) d e 3 0 = ((if a ≤ d ∧ b ≤ e then 1 else 0) + if b ≤ d ∧ a ≤ e then 1 else 0) + ((if b ≤ d ∧ c ≤ e then 1 else 0) + if c ≤ d ∧ b ≤ e then 1 else 0) + ((if a ≤ d ∧ c ≤ e then 1 else 0) + if c ≤ d ∧ a ≤ e then 1 else 0) := by
  have e0 : bxE a b c 0 = a := rfl
  have e1 : bxE a b c 1 = b := rfl
  have e2 : bxE a b c 2 = c := rfl
  simp only [bxS, bxN, Nat.zero_add, Nat.reduceAdd, e0, e1, e2, ne_eq, not_true_eq_false, false_and, if_false, Nat.reduceEqDiff, not_false_eq_true, true_and, Nat.add_zero]
  omega
theorem g_box (x y w : Int32) : Good Inv (F_C_box x y w) (F_R_box x y w) := by
  intro s h
  have k0 : ∀ (t : Mem) (v : Int32), sd t 158 0 v = some (mw t 158 0 v) := fun t v => sd_in (k := 0) rfl (by decide) (by decide)
  have k1 : ∀ (t : Mem) (v : Int32), sd t 158 1 v = some (mw t 158 1 v) := fun t v => sd_in (k := 1) rfl (by decide) (by decide)
  have k2 : ∀ (t : Mem) (v : Int32), sd t 158 2 v = some (mw t 158 2 v) := fun t v => sd_in (k := 2) rfl (by decide) (by decide)
  have l0 : ∀ (t : Mem), ld t 158 0 = some (t 158 0) := fun t => ld_in (k := 0) rfl (by decide) (by decide)
  have l1 : ∀ (t : Mem), ld t 158 1 = some (t 158 1) := fun t => ld_in (k := 1) rfl (by decide) (by decide)
  have l2 : ∀ (t : Mem), ld t 158 2 = some (t 158 2) := fun t => ld_in (k := 2) rfl (by decide) (by decide)
  generalize hs4 : mw (mw (mw (mw s 123 0 0) 158 0 (x / 10000)) 158 1 (irm (x / 100) 100)) 158 2 (irm x 100) = s4
  have hI : Inv s4 := by
    rw [← hs4]
    exact Inv_eq (prj_mw rfl) (Inv_eq (prj_mw rfl) (Inv_eq (prj_mw rfl) (Inv_t h)))
  have v0 : s4 158 0 = x / 10000 := by rw [← hs4]; rfl
  have v1 : s4 158 1 = irm (x / 100) 100 := by rw [← hs4]; rfl
  have v2 : s4 158 2 = irm x 100 := by rw [← hs4]; rfl
  by_cases h1 : 0 ≤ x ∧ x ≤ 999999
  · by_cases h2 : 0 ≤ y ∧ y ≤ 9999
    · obtain ⟨A, hA, rfl⟩ := in_nI (m := 999999) (by decide) h1
      obtain ⟨B, hB, rfl⟩ := in_nI (m := 9999) (by decide) h2
      have d1 : nI A / 10000 = nI (A / 10000) := n_divL (by omega) (by decide) (by decide) rfl
      have d2 : nI A / 100 = nI (A / 100) := n_divL (by omega) (by decide) (by decide) rfl
      have d3 : irm (nI (A / 100)) 100 = nI (A / 100 % 100) := n_irmL (by omega) (by decide) (by decide) rfl
      have d4 : irm (nI A) 100 = nI (A % 100) := n_irmL (by omega) (by decide) (by decide) rfl
      have d5 : nI B / 100 = nI (B / 100) := n_divL (by omega) (by decide) (by decide) rfl
      have d6 : irm (nI B) 100 = nI (B % 100) := n_irmL (by omega) (by decide) (by decide) rfl
      have ha : A / 10000 < 100 := by omega
      have hb : A / 100 % 100 < 100 := by omega
      have hc : A % 100 < 100 := by omega
      have hd : B / 100 < 100 := by omega
      have he : B % 100 < 100 := by omega
      rw [d1] at v0
      rw [d2, d3] at v1
      rw [d4] at v2
      rw [d1, d2, d3, d4] at hs4
      generalize A / 10000 = a at *
      generalize hbb : A / 100 % 100 = b at *
      generalize A % 100 = c at *
      generalize B / 100 = d at *
      generalize B % 100 = e at *
      have zz : ∀ {q : Nat}, q < 100 → ((nI q = 0) ↔ q = 0) := fun {q} hq => nI_eq (a := q) (b := 0) (by omega) (by decide)
      have p5 := prod5 ha hb hc hd he
      by_cases h3 : 0 ≤ w ∧ w ≤ 1
      · by_cases hz : a = 0 ∨ b = 0 ∨ c = 0 ∨ d = 0 ∨ e = 0
        · refine ⟨-1, s, s4, ?_, ?_, hI⟩
          · have hw : F_D_waysThrough (nI A) (nI B) s = some (-1, s) := by
              simp only [F_D_waysThrough, d1, d2, d3, d4, d5, d6, zz ha, zz hb, zz hc, zz hd, zz he]
              rcases hz with q | q | q | q | q <;> simp only [q, if_true] <;> (repeat' split) <;> rfl
            simp only [F_C_box, C_within, Option.bind_some, b01, h1, h2, h3, and_self, not_true_eq_false, if_false, hw]
            split
            · rfl
            · rfl
          · simp only [F_R_box, k0, k1, k2, Option.bind_some, d1, d2, d3, d4, d5, d6, hs4, R_isIn, b01, h1, h2, and_self, not_true_eq_false, if_false, l0, l1, l2, v0, v1, v2]
            rw [if_pos (p5.mpr hz)]
        · have hS := bxS_eq a b c d e
          have hw : F_D_waysThrough (nI A) (nI B) s = some (nI (bxS (bxE a b c) d e 3 0), s) := by
            simp only [F_D_waysThrough, d1, d2, d3, d4, d5, d6, zz ha, zz hb, zz hc, zz hd, zz he]
            rw [if_neg (by omega), if_neg (by omega), if_neg (by omega), if_neg (by omega), if_neg (by omega)]
            rw [D_side ha hb hd he]
            simp only [Option.bind_some]
            rw [D_side hb hc hd he]
            simp only [Option.bind_some]
            rw [D_side ha hc hd he]
            simp only [Option.bind_some, nI_add]
            rw [hS]
          have hE : ∀ j, j < 3 → s4 158 j = nI (bxE a b c j) ∧ bxE a b c j < 100 := by
            intro j hj
            rcases (show j = 0 ∨ j = 1 ∨ j = 2 by omega) with rfl | rfl | rfl
            · exact ⟨v0, ha⟩
            · exact ⟨v1, hb⟩
            · exact ⟨v2, hc⟩
          have h77 := box77 (x3 := w) hE hd he 3 0 0 gF rfl (by rw [gF_eq]; omega)
          rw [Nat.zero_add] at h77
          have hN : bxS (bxE a b c) d e 3 0 ≤ 6 := by
            rw [hS]
            repeat' split
            all_goals omega
          generalize bxS (bxE a b c) d e 3 0 = N at *
          refine ⟨if w = 1 then nI N else if nI N ≤ 0 then 0 else 1, s, s4, ?_, ?_, hI⟩
          · simp only [F_C_box, C_within, Option.bind_some, b01, h1, h2, h3, and_self, not_true_eq_false, if_false, hw]
            by_cases hw1 : w = 1
            · rw [if_pos hw1, if_pos hw1]
            · have q1 : ¬ nI N = -1 := by
                intro q
                have := congrArg Int32.toInt q
                rw [nI_toInt (by omega)] at this
                have h9 : (-1 : Int32).toInt = -1 := rfl
                rw [h9] at this
                omega
              rw [if_neg hw1, if_neg hw1, if_neg q1, C_min]
              have q2 : (1 : Int32) < nI N ↔ 1 < N := nI_ltI (a := 1) (by decide) (by omega)
              have q3 : nI N ≤ 0 ↔ N ≤ 0 := nI_leI (b := 0) (by omega) (by decide)
              by_cases r1 : 1 < N
              · rw [if_pos (q2.mpr r1), if_neg (fun q => absurd (q3.mp q) (by omega))]
                rfl
              · rw [if_neg (fun q => r1 (q2.mp q))]
                by_cases r2 : N ≤ 0
                · rw [if_pos (q3.mpr r2)]
                  rw [show N = 0 by omega]
                  rfl
                · rw [if_neg (fun q => r2 (q3.mp q))]
                  rw [show N = 1 by omega]
                  rfl
          · simp only [F_R_box, k0, k1, k2, Option.bind_some, d1, d2, d3, d4, d5, d6, hs4, R_isIn, b01, h1, h2, h3, and_self, not_true_eq_false, if_false, l0, l1, l2, v0, v1, v2]
            rw [if_neg (fun q => hz (p5.mp q))]
            refine Eq.trans h77 ?_
            by_cases hw1 : w = 1
            · rw [if_pos hw1, if_pos hw1]
            · rw [if_neg hw1, if_neg hw1]
              split <;> rfl
      · refine ⟨-1, s, s4, ?_, ?_, hI⟩
        · simp only [F_C_box, C_within, Option.bind_some, b01, h1, h2, h3, and_self, not_true_eq_false, not_false_eq_true, if_false, if_true, one0]
        · simp only [F_R_box, k0, k1, k2, Option.bind_some, d1, d2, d3, d4, d5, d6, hs4, R_isIn, b01, h1, h2, h3, and_self, not_true_eq_false, not_false_eq_true, if_false, if_true, one0, l0, l1, l2, v0, v1, v2]
          split <;> rfl
    · refine ⟨-1, s, s4, ?_, ?_, hI⟩
      · simp only [F_C_box, C_within, Option.bind_some, b01, h1, h2, and_self, not_true_eq_false, not_false_eq_true, if_false, if_true, one0]
      · simp only [F_R_box, k0, k1, k2, Option.bind_some, hs4, R_isIn, b01, h1, h2, and_self, not_true_eq_false, not_false_eq_true, if_false, if_true, one0]
  · refine ⟨-1, s, s4, ?_, ?_, hI⟩
    · simp only [F_C_box, C_within, Option.bind_some, b01, h1, not_false_eq_true, if_true]
    · simp only [F_R_box, k0, k1, k2, Option.bind_some, hs4, R_isIn, b01, h1, not_false_eq_true, if_true]
