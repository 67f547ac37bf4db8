/-! ===== text: a line of visits, of doors ===== -/
noncomputable def vTC (s : Mem) : Option (Int32 × Mem) := (F_P_readBounded 7 3 1 200 s).bind fun z7 => if z7.1 = 0 then some (0, z7.2) else (F_P_readBounded 16 4 1 5 z7.2).bind fun z8 => if z8.1 = 0 then some (0, z8.2) else some (1, z8.2)
noncomputable def vTR (x1 : Int32) (s : Mem) : Option (Int32 × Mem) := (F_R_readTold 7 1 200 s).bind fun z13 => (sd z13.2 141 (x1 + 3) z13.1).bind fun s14 => (ld s14 141 (x1 + 3)).bind fun v15 => if v15 = (-1) then some ((-1), s14) else (F_R_readTold 16 1 5 s14).bind fun z16 => (sd z16.2 141 (x1 + 4) z16.1).bind fun s17 => (ld s17 141 (x1 + 4)).bind fun v18 => if v18 = (-1) then some ((-1), s17) else (F_R_readMark 59 s17).bind fun z19 => some (z19.1, z19.2)
theorem jV2 {a b : Mem} {t : Nat → Nat} {n j m : Nat} {L : List (Nat × Nat × Nat × Nat)} (hA : ATt a L j) (hP : PSt b t n L j) (h88 : a 88 1 = nI m) (hm : m < 16) : (∃ w st j' a' b', 1 ≤ w ∧ w ≤ 200 ∧ 1 ≤ st ∧ st ≤ 5 ∧ j < j' ∧ lnX vTC a = some (1, a') ∧ vTR (nI (80 + 5 * m)) b = some (0, b') ∧ ATt a' L j' ∧ PSt b' t n L j' ∧ frA a a' ∧ frB b b' ∧ a' 88 = a 88 ∧ (∀ k, a' 89 k = if k = 5 * m + 4 then nI st else if k = 5 * m + 3 then nI w else a 89 k) ∧ ∀ k, b' 141 k = if k = 80 + 5 * m + 4 then nI st else if k = 80 + 5 * m + 3 then nI w else b 141 k) ∨ ∃ a' b', lnX vTC a = some (0, a') ∧ vTR (nI (80 + 5 * m)) b = some (-1, b') ∧ flY a b a' b' := by
  have x3 : 80 + 5 * m + 3 < 160 := by omega
  have x4 : 80 + 5 * m + 4 < 160 := by omega
  have e3 : nI (80 + 5 * m) + 3 = nI (80 + 5 * m + 3) := nI_add _ 3
  have e4 : nI (80 + 5 * m) + 4 = nI (80 + 5 * m + 4) := nI_add _ 4
  rcases jB (w := 7) (c := 3) (lo := 1) (hi := 200) hA hP (by decide) h88 hm (by decide) with ⟨w, b1, v1, w1, w2, k1, k2, k3, k4, k5⟩ | ⟨a1, b1, k1, k2, k3⟩
  · have c1 : F_P_readBounded 7 3 1 200 a = some (1, bdM a j m 3 w) := k1
    have r1 : F_R_readTold 7 1 200 b = some (nI w, b1) := k2
    have wm : ¬ nI w = -1 := nI_m1 (by omega)
    have w1 : 1 ≤ w := (nI_leI (a := 1) (by decide) (by omega)).mp w1
    have w2 : w ≤ 200 := (nI_leI (b := 200) (by omega) (by decide)).mp w2
    obtain ⟨b2, s2, l2, fB2, P2, y2, o2, q2⟩ := wrR (s := b1) (c := 141) (k := 80 + 5 * m + 3) (v := nI w) rfl x3 (by decide) (rl141 (by omega)) (by decide)
    have p1 : bdP a (bdM a j m 3 w) m 3 w := bdP_M
    generalize bdM a j m 3 w = a1 at *
    have fB2 : frB b b2 := frB_t (frB_T k3) fB2
    have P2 := P2 _ _ _ _ k4
    have h88a : a1 88 1 = nI m := by rw [p1.2.1]; exact h88
    rcases jB (w := 16) (c := 4) (lo := 1) (hi := 5) k5 P2 (by decide) h88a hm (by decide) with ⟨st, b3, st9, t1, t2, k6, k7, k8, k9, k10⟩ | ⟨a3, b3, k6, k7, k8⟩
    · have c2 : F_P_readBounded 16 4 1 5 a1 = some (1, bdM a1 (j + 2) m 4 st) := k6
      have r2 : F_R_readTold 16 1 5 b2 = some (nI st, b3) := k7
      have sm : ¬ nI st = -1 := nI_m1 (by omega)
      have t1 : 1 ≤ st := (nI_leI (a := 1) (by decide) (by omega)).mp t1
      have t2 : st ≤ 5 := (nI_leI (b := 5) (by omega) (by decide)).mp t2
      have p2 : bdP a1 (bdM a1 (j + 2) m 4 st) m 4 st := bdP_M
      generalize bdM a1 (j + 2) m 4 st = a3 at *
      obtain ⟨b4, s4, l4, fB4, P4, y4, o4, q4⟩ := wrR (s := b3) (c := 141) (k := 80 + 5 * m + 4) (v := nI st) rfl x4 (by decide) (rl141 (by omega)) (by decide)
      have P4 := P4 _ _ _ _ k9
      have fA3 : frA a a3 := frA_t p1.1 p2.1
      have fB4 : frB b b4 := frB_t fB2 (frB_t (frB_T k8) fB4)
      rcases mkE k10 P4 with ⟨b5, m1, m2, m3, m4, m5⟩ | ⟨m1, m2⟩
      · refine Or.inl ⟨w, st, _, _, b5, w1, w2, t1, t2, ?_, ?_, ?_, m5, m4, frA_t fA3 (frA_mw rfl (by decide)), frB_t fB4 (frB_T m3), ?_, fun k => ?_, fun k => ?_⟩
        · omega
        · simp only [lnX, vTC, c1, c2, Option.bind_some, one0, if_false, m1]
        · simp only [vTR, r1, Option.bind_some, e3, s2, l2, if_neg wm, r2, e4, s4, l4, if_neg sm, m2]
        · rw [av_o (by decide), p2.2.1, p1.2.1]
        · rw [av_o (by decide)]
          by_cases d4 : k = 5 * m + 4
          · rw [if_pos d4, d4, p2.2.2.1]
          · rw [if_neg d4, p2.2.2.2.1 k d4]
            by_cases d3 : k = 5 * m + 3
            · rw [if_pos d3, d3, p1.2.2.1]
            · rw [if_neg d3, p1.2.2.2.1 k d3]
        · rw [m3.1 141 (by decide)]
          by_cases d4 : k = 80 + 5 * m + 4
          · rw [if_pos d4, d4, y4]
          · rw [if_neg d4, o4 k d4, k8.1 141 (by decide)]
            by_cases d3 : k = 80 + 5 * m + 3
            · rw [if_pos d3, d3, y2]
            · rw [if_neg d3, o2 k d3, k3.1 141 (by decide)]
      · refine Or.inr ⟨_, _, ?_, ?_, flY_t fA3 fB4 (flY_1 (L := L) (j := j + 2 + 2) (k := 1))⟩
        · simp only [lnX, vTC, c1, c2, Option.bind_some, one0, if_false, m1]
        · simp only [vTR, r1, Option.bind_some, e3, s2, l2, if_neg wm, r2, e4, s4, l4, if_neg sm, m2]
    · have c2 : F_P_readBounded 16 4 1 5 a1 = some (0, a3) := k6
      have r2 : F_R_readTold 16 1 5 b2 = some (-1, b3) := k7
      obtain ⟨b4, s4, l4, fB4, -, -, -, q4⟩ := wrR (s := b3) (c := 141) (k := 80 + 5 * m + 4) (v := -1) rfl x4 (by decide) (rl141 (by omega)) (by decide)
      refine Or.inr ⟨a3, b4, ?_, ?_, flY_t p1.1 fB2 (flY_b (flY_X k8) fB4 (q4 123 (by decide)))⟩
      · simp only [lnX, vTC, c1, c2, Option.bind_some, one0, if_false, if_true]
      · simp only [vTR, r1, Option.bind_some, e3, s2, l2, if_neg wm, r2, e4, s4, l4, if_true]
  · have c1 : F_P_readBounded 7 3 1 200 a = some (0, a1) := k1
    have r1 : F_R_readTold 7 1 200 b = some (-1, b1) := k2
    obtain ⟨b2, s2, l2, fB2, -, -, -, q2⟩ := wrR (s := b1) (c := 141) (k := 80 + 5 * m + 3) (v := -1) rfl x3 (by decide) (rl141 (by omega)) (by decide)
    refine Or.inr ⟨a1, b2, ?_, ?_, flY_b (flY_X k3) fB2 (q2 123 (by decide))⟩
    · simp only [lnX, vTC, c1, Option.bind_some, if_true]
    · simp only [vTR, r1, Option.bind_some, e3, s2, l2, if_true]
def VIl (g : Nat) (a b : Mem) (l : Nat) : Prop := b 141 (80 + 5 * l) = a 89 (5 * l) ∧ ∃ f u w st, f < g ∧ u ≤ 1 ∧ 1 ≤ w ∧ w ≤ 200 ∧ 1 ≤ st ∧ st ≤ 5 ∧ a 89 (5 * l + 1) = nI f ∧ a 89 (5 * l + 2) = nI u ∧ a 89 (5 * l + 3) = nI w ∧ a 89 (5 * l + 4) = nI st ∧ b 141 (80 + 5 * l + 1) = nI f ∧ b 141 (80 + 5 * l + 2) = nI u ∧ b 141 (80 + 5 * l + 3) = nI w ∧ b 141 (80 + 5 * l + 4) = nI st
theorem jV {a b : Mem} {t : Nat → Nat} {n j m g : Nat} {z : Nat → Nat} {L : List (Nat × Nat × Nat × Nat)} (hA : ATt a L j) (hP : PSt b t n L j) (h88 : a 88 1 = nI m) (hm : m < 16) (hH : HZ a b g z) : (∃ j' a' b', j < j' ∧ lnX F_P_readVisit a = some (1, a') ∧ F_R_readVisit (nI (80 + 5 * m)) b = some (0, b') ∧ ATt a' L j' ∧ PSt b' t n L j' ∧ lnF a b a' b' m 141 (80 + 5 * m) 5 ∧ VIl g a' b' m) ∨ ∃ a' b', lnX F_P_readVisit a = some (0, a') ∧ F_R_readVisit (nI (80 + 5 * m)) b = some (-1, b') ∧ flY a b a' b' := by
  have x0 : 80 + 5 * m < 160 := by omega
  have x1 : 80 + 5 * m + 1 < 160 := by omega
  have x2 : 80 + 5 * m + 2 < 160 := by omega
  have e1 : nI (80 + 5 * m) + 1 = nI (80 + 5 * m + 1) := nI_add _ 1
  have e2 : nI (80 + 5 * m) + 2 = nI (80 + 5 * m + 2) := nI_add _ 2
  rcases jB (w := 18) (c := 0) (lo := 0) (hi := 999) hA hP (by decide) h88 hm (by decide) with ⟨v, b1, v1, -, -, k1, k2, k3, k4, k5⟩ | ⟨a1, b1, k1, k2, k3⟩
  · have c1 : F_P_readBounded 18 0 0 999 a = some (1, bdM a j m 0 v) := k1
    have r1 : F_R_readTold 18 0 999 b = some (nI v, b1) := k2
    have vm : ¬ nI v = -1 := nI_m1 (by omega)
    obtain ⟨b2, s2, l2, fB2, P2, y2, o2, q2⟩ := wrR (s := b1) (c := 141) (k := 80 + 5 * m) (v := nI v) rfl x0 (by decide) (rl141 (by omega)) (by decide)
    have p1 : bdP a (bdM a j m 0 v) m 0 v := bdP_M
    generalize bdM a j m 0 v = a1 at *
    have fB2 : frB b b2 := frB_t (frB_T k3) fB2
    have P2 := P2 _ _ _ _ k4
    have H2 := HZ_fr hH p1.1 fB2
    have e6 : b2 123 6 = nI g := H2.2.2.1
    have h88a : a1 88 1 = nI m := by rw [p1.2.1]; exact h88
    rcases jF (c := 1) k5 P2 h88a hm (by decide) H2.2.1 H2.1 with ⟨f, b3, f1, k6, k7, k8, k9, k10⟩ | ⟨a3, b3, k6, k7, k8⟩
    · have c2 : F_P_readFlight 19 1 (-1) a1 = some (1, bdM a1 (j + 2) m 1 f) := k6
      have fm : ¬ nI f = -1 := nI_m1 (by have := hH.1; omega)
      have p2 : bdP a1 (bdM a1 (j + 2) m 1 f) m 1 f := bdP_M
      generalize bdM a1 (j + 2) m 1 f = a3 at *
      have h88b : a3 88 1 = nI m := by rw [p2.2.1]; exact h88a
      obtain ⟨b4, s4, l4, fB4, P4, y4, o4, q4⟩ := wrR (s := b3) (c := 141) (k := 80 + 5 * m + 1) (v := nI f) rfl x1 (by decide) (rl141 (by omega)) (by decide)
      have P4 := P4 _ _ _ _ k9
      have fA3 : frA a a3 := frA_t p1.1 p2.1
      have fB4 : frB b b4 := frB_t fB2 (frB_t (frB_T k8) fB4)
      have kd1 := kindE k10
      have k66 := tk_ne P4
      have i27 : F_R_isWord 27 b4 = some (if (tkN L (j + 2 + 2)).1 = 27 then 1 else 0, b4) := isWE (w := 27) P4 (by decide)
      have i28 : F_R_isWord 28 b4 = some (if (tkN L (j + 2 + 2)).1 = 28 then 1 else 0, b4) := isWE (w := 28) P4 (by decide)
      have n27 : nI (tkN L (j + 2 + 2)).1 = 27 ↔ (tkN L (j + 2 + 2)).1 = 27 := nI_eq (b := 27) (by omega) (by decide)
      have n28 : nI (tkN L (j + 2 + 2)).1 = 28 ↔ (tkN L (j + 2 + 2)).1 = 28 := nI_eq (b := 28) (by omega) (by decide)
      have fin : ∀ u : Nat, u ≤ 1 → (tkN L (j + 2 + 2)).1 < 30 → (∀ a5, F_N_draft 2 (nI u) a3 = some (0, a5) → lnX F_P_readVisit a = lnX vTC (mw a5 76 4 (a5 76 4 + 1))) → (∀ b5 b6, sd b4 141 (nI (80 + 5 * m + 2)) (nI u) = some b5 → F_R_reads b5 = some (0, b6) → F_R_readVisit (nI (80 + 5 * m)) b = vTR (nI (80 + 5 * m)) b6) → (∃ j' a' b', j < j' ∧ lnX F_P_readVisit a = some (1, a') ∧ F_R_readVisit (nI (80 + 5 * m)) b = some (0, b') ∧ ATt a' L j' ∧ PSt b' t n L j' ∧ lnF a b a' b' m 141 (80 + 5 * m) 5 ∧ VIl g a' b' m) ∨ ∃ a' b', lnX F_P_readVisit a = some (0, a') ∧ F_R_readVisit (nI (80 + 5 * m)) b = some (-1, b') ∧ flY a b a' b' := by
        intro u hu h30 hC hR
        have dr : F_N_draft 2 (nI u) a3 = some (0, mw a3 89 (5 * m + 2) (nI u)) := drE (c := 2) h88b hm (by decide)
        have hC := hC _ dr
        have A5 : ATt (mw a3 89 (5 * m + 2) (nI u)) L (j + 2 + 2) := ATt_89 k10
        have av : mw (mw a3 89 (5 * m + 2) (nI u)) 76 4 (mw a3 89 (5 * m + 2) (nI u) 76 4 + 1) = avM (mw a3 89 (5 * m + 2) (nI u)) (j + 2 + 2) := by
          rw [A5.2.2.1, nI_1]
          rfl
        rw [av] at hC
        obtain ⟨b5, s5, -, fB5, P5, y5, o5, q5⟩ := wrR (s := b4) (c := 141) (k := 80 + 5 * m + 2) (v := nI u) rfl x2 (by decide) (rl141 (by omega)) (by decide)
        have P5 := P5 _ _ _ _ P4
        obtain ⟨b6, r6, f6, P6⟩ := nextR P5 (by omega)
        have hR := hR b5 b6 s5 r6
        have A6 := ATt_av A5 P6.1
        have g1 : frA a3 (avM (mw a3 89 (5 * m + 2) (nI u)) (j + 2 + 2)) := frA_t (frA_mw (c := 89) rfl (by decide)) (frA_mw (c := 76) rfl (by decide))
        have g2 : avM (mw a3 89 (5 * m + 2) (nI u)) (j + 2 + 2) 88 = a3 88 := (av_o (by decide)).trans (mw_o (by decide))
        have g3 : avM (mw a3 89 (5 * m + 2) (nI u)) (j + 2 + 2) 89 (5 * m + 2) = nI u := (congrFun (av_o (by decide)) _).trans (mwSelf _ _ _ _)
        have g4 : ∀ k, k ≠ 5 * m + 2 → avM (mw a3 89 (5 * m + 2) (nI u)) (j + 2 + 2) 89 k = a3 89 k := fun k hk => (congrFun (av_o (by decide)) _).trans (mw_k hk)
        generalize avM (mw a3 89 (5 * m + 2) (nI u)) (j + 2 + 2) = a6 at *
        have fA6 : frA a a6 := frA_t fA3 g1
        have fB6 : frB b b6 := frB_t fB4 (frB_t fB5 (frB_T f6))
        have h88c : a6 88 1 = nI m := by rw [g2]; exact h88b
        rcases jV2 A6 P6 h88c hm with ⟨w, st, j', a', b', w1, w2, t1, t2, hj, hc, hr, hA', hP', fA', fB', e88, q89, q141⟩ | ⟨a', b', hc, hr, hf⟩
        · have z89 : ∀ k, a' 89 k = if k = 5 * m + 4 then nI st else if k = 5 * m + 3 then nI w else if k = 5 * m + 2 then nI u else if k = 5 * m + 1 then nI f else if k = 5 * m then nI v else a 89 k := fun k => by
            rw [q89]
            by_cases d4 : k = 5 * m + 4
            · rw [if_pos d4, if_pos d4]
            · rw [if_neg d4, if_neg d4]
              by_cases d3 : k = 5 * m + 3
              · rw [if_pos d3, if_pos d3]
              · rw [if_neg d3, if_neg d3]
                by_cases d2 : k = 5 * m + 2
                · rw [if_pos d2, d2, g3]
                · rw [if_neg d2, g4 k d2]
                  by_cases d1 : k = 5 * m + 1
                  · rw [if_pos d1, d1, p2.2.2.1]
                  · rw [if_neg d1, p2.2.2.2.1 k d1]
                    by_cases d0 : k = 5 * m
                    · rw [if_pos d0, d0]
                      exact p1.2.2.1
                    · rw [if_neg d0, p1.2.2.2.1 k d0]
          have z141 : ∀ k, b' 141 k = if k = 80 + 5 * m + 4 then nI st else if k = 80 + 5 * m + 3 then nI w else if k = 80 + 5 * m + 2 then nI u else if k = 80 + 5 * m + 1 then nI f else if k = 80 + 5 * m then nI v else b 141 k := fun k => by
            rw [q141]
            by_cases d4 : k = 80 + 5 * m + 4
            · rw [if_pos d4, if_pos d4]
            · rw [if_neg d4, if_neg d4]
              by_cases d3 : k = 80 + 5 * m + 3
              · rw [if_pos d3, if_pos d3]
              · rw [if_neg d3, if_neg d3, f6.1 141 (by decide)]
                by_cases d2 : k = 80 + 5 * m + 2
                · rw [if_pos d2, d2, y5]
                · rw [if_neg d2, o5 k d2]
                  by_cases d1 : k = 80 + 5 * m + 1
                  · rw [if_pos d1, d1, y4]
                  · rw [if_neg d1, o4 k d1, k8.1 141 (by decide)]
                    by_cases d0 : k = 80 + 5 * m
                    · rw [if_pos d0, d0, y2]
                    · rw [if_neg d0, o2 k d0, k3.1 141 (by decide)]
          refine Or.inl ⟨j', a', b', by omega, hC.trans hc, hR.trans hr, hA', hP', ⟨frA_t fA6 fA', frB_t fB6 fB', ?_, fun k hk => ?_, fun k hk => ?_⟩, ?_, f, u, w, st, f1, hu, w1, w2, t1, t2, ?_, ?_, ?_, ?_, ?_, ?_, ?_, ?_⟩
          · rw [e88, g2, p2.2.1, p1.2.1]
          · rw [z89, if_neg (by omega), if_neg (by omega), if_neg (by omega), if_neg (by omega), if_neg (by omega)]
          · rw [z141, if_neg (by omega), if_neg (by omega), if_neg (by omega), if_neg (by omega), if_neg (by omega)]
          · rw [z141, if_neg (by omega), if_neg (by omega), if_neg (by omega), if_neg (by omega), if_pos rfl, z89, if_neg (by omega), if_neg (by omega), if_neg (by omega), if_neg (by omega), if_pos rfl]
          · rw [z89, if_neg (by omega), if_neg (by omega), if_neg (by omega), if_pos rfl]
          · rw [z89, if_neg (by omega), if_neg (by omega), if_pos rfl]
          · rw [z89, if_neg (by omega), if_pos rfl]
          · rw [z89, if_pos rfl]
          · rw [z141, if_neg (by omega), if_neg (by omega), if_neg (by omega), if_pos rfl]
          · rw [z141, if_neg (by omega), if_neg (by omega), if_pos rfl]
          · rw [z141, if_neg (by omega), if_pos rfl]
          · rw [z141, if_pos rfl]
        · exact Or.inr ⟨a', b', hC.trans hc, hR.trans hr, flY_t fA6 fB6 hf⟩
      by_cases d27 : (tkN L (j + 2 + 2)).1 = 27
      · refine fin 1 (by decide) (by omega) (fun a5 ha5 => ?_) (fun b5 b6 hb5 hb6 => ?_)
        · have ha5 : F_N_draft 2 1 a3 = some (0, a5) := ha5
          simp only [lnX, F_P_readVisit, F_P_readNight, c1, c2, Option.bind_some, b1a, if_true, one0, if_false, kd1, if_pos (n27.mpr d27), ha5, vTC]
        · have hb5 : sd b4 141 (nI (80 + 5 * m + 2)) 1 = some b5 := hb5
          simp only [F_R_readVisit, r1, Option.bind_some, s2, l2, if_neg vm, e6, k7, e1, s4, l4, if_neg fm, i27, if_pos d27, one0, if_false, e2, hb5, hb6, vTR]
      · by_cases d28 : (tkN L (j + 2 + 2)).1 = 28
        · refine fin 0 (by decide) (by omega) (fun a5 ha5 => ?_) (fun b5 b6 hb5 hb6 => ?_)
          · have ha5 : F_N_draft 2 0 a3 = some (0, a5) := ha5
            simp only [lnX, F_P_readVisit, F_P_readNight, c1, c2, Option.bind_some, b1a, if_true, one0, if_false, kd1, if_neg (fun q => d27 (n27.mp q)), if_pos (n28.mpr d28), ha5, vTC]
          · have hb5 : sd b4 141 (nI (80 + 5 * m + 2)) 0 = some b5 := hb5
            simp only [F_R_readVisit, r1, Option.bind_some, s2, l2, if_neg vm, e6, k7, e1, s4, l4, if_neg fm, i27, if_neg d27, i28, if_pos d28, one0, if_false, if_true, e2, hb5, hb6, vTR]
        · refine Or.inr ⟨_, _, ?_, ?_, flY_t fA3 fB4 (flY_1 (L := L) (j := j + 2 + 2) (k := 1))⟩
          · simp only [lnX, F_P_readVisit, F_P_readNight, c1, c2, Option.bind_some, b1a, b0a, if_true, one0, if_false, kd1, if_neg (fun q => d27 (n27.mp q)), if_neg (fun q => d28 (n28.mp q)), failE k10]
          · simp only [F_R_readVisit, r1, Option.bind_some, s2, l2, if_neg vm, e6, k7, e1, s4, l4, if_neg fm, i27, if_neg d27, i28, if_neg d28, if_true, errE P4]
    · have c2 : F_P_readFlight 19 1 (-1) a1 = some (0, a3) := k6
      obtain ⟨b4, s4, l4, fB4, -, -, -, q4⟩ := wrR (s := b3) (c := 141) (k := 80 + 5 * m + 1) (v := -1) rfl x1 (by decide) (rl141 (by omega)) (by decide)
      refine Or.inr ⟨a3, b4, ?_, ?_, flY_t p1.1 fB2 (flY_b (flY_X k8) fB4 (q4 123 (by decide)))⟩
      · simp only [lnX, F_P_readVisit, F_P_readNight, c1, c2, Option.bind_some, b1a, if_true, one0, if_false]
      · simp only [F_R_readVisit, r1, Option.bind_some, s2, l2, if_neg vm, e6, k7, e1, s4, l4, if_true]
  · have c1 : F_P_readBounded 18 0 0 999 a = some (0, a1) := k1
    have r1 : F_R_readTold 18 0 999 b = some (-1, b1) := k2
    obtain ⟨b2, s2, l2, fB2, -, -, -, q2⟩ := wrR (s := b1) (c := 141) (k := 80 + 5 * m) (v := -1) rfl x0 (by decide) (rl141 (by omega)) (by decide)
    refine Or.inr ⟨a1, b2, ?_, ?_, flY_b (flY_X k3) fB2 (q2 123 (by decide))⟩
    · simp only [lnX, F_P_readVisit, F_P_readNight, c1, Option.bind_some, b0a, if_true]
    · simp only [F_R_readVisit, r1, Option.bind_some, s2, l2, if_true]
