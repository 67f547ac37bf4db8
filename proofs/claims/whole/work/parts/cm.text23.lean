/-! ===== text: the call ===== -/
theorem p_text (x : Int32) : Pair I2 I2 (F_C_text x) (F_R_text x) := by
  intro a b h
  obtain ⟨⟨hHS, -, -, -, -, -, -, -⟩, -, -, ⟨⟨n, n4, n1, n2, n3⟩, -, -, -, -, n5⟩⟩ := id h
  have n1 : a 0 8 = nI n := n1
  have n2 : b 123 11 = nI n := n2
  have n3 : ∀ k, k < n → b 130 k = a 75 k ∧ inN 0 255 (a 75 k) := n3
  have n5 : ∀ k, k < 170 → b 131 k = wrdT.getD k 0 := n5
  obtain ⟨a0, ha0⟩ : ∃ a0, a0 = mw (mw (mw a 0 8 0) 0 10 0) 0 11 (-1) := ⟨_, rfl⟩
  obtain ⟨b0, hb0⟩ : ∃ b0, b0 = mw (mw (mw (mw (mw (mw b 123 0 0) 123 31 0) 123 32 (-1)) 123 12 0) 123 25 0) 123 26 0 := ⟨_, rfl⟩
  have t0 : T0 a a0 := by
    rw [ha0]
    refine ⟨fun c hc => by rw [mw_o hc, mw_o hc, mw_o hc], fun k k1 k2 k3 => by rw [mw_k k3, mw_k k2, mw_k k1], ?_, ?_, mwSelf _ _ _ _⟩
    · rw [mw_k (by decide), mw_k (by decide), mwSelf]
    · rw [mw_k (by decide), mwSelf]
  have t1 : T1 b b0 := by
    rw [hb0]
    refine ⟨fun c hc => by rw [mw_o hc, mw_o hc, mw_o hc, mw_o hc, mw_o hc, mw_o hc], fun k hk k1 k2 => ?_, ?_, ?_⟩
    · have q0 : k ≠ 0 := fun e => by subst e; exact Bool.noConfusion (show false = true from hk)
      have q1 : k ≠ 12 := fun e => by subst e; exact Bool.noConfusion (show false = true from hk)
      have q2 : k ≠ 25 := fun e => by subst e; exact Bool.noConfusion (show false = true from hk)
      have q3 : k ≠ 26 := fun e => by subst e; exact Bool.noConfusion (show false = true from hk)
      rw [mw_k q3, mw_k q2, mw_k q1, mw_k k2, mw_k k1, mw_k q0]
    · rw [mw_k (by decide), mw_k (by decide), mw_k (by decide), mw_k (by decide), mwSelf]
    · rw [mw_k (by decide), mw_k (by decide), mw_k (by decide), mwSelf]
  have z12 : b0 123 12 = 0 := by rw [hb0, mw_k (by decide), mw_k (by decide), mwSelf]
  have z25 : b0 123 25 = 0 := by rw [hb0, mw_k (by decide), mwSelf]
  have z26 : b0 123 26 = 0 := by rw [hb0, mwSelf]
  have fin : ∀ (v : Int32) (a' b' A B : Mem), frA a0 a' → frB b0 b' → (∀ c, ¬ c < 123 → A c = a' c) → (∀ c, c < 123 → B c = b' c) → F_C_text x a = some (v, A) → F_R_text x b = some (v, B) → I2 A B → ∃ (v : Int32) (a' b' : Mem), F_C_text x a = some (v, a') ∧ F_R_text x b = some (v, b') ∧ I2 a' b' ∧ (∀ c, ¬ c < 123 → a' c = a c) ∧ ∀ c, c < 123 → b' c = b c := fun v a' b' A B fa fb hA hB e1 e2 hI => ⟨v, A, B, e1, e2, hI, fun c hc => by rw [hA c hc, fa.2 c hc, t0.1 c (by omega)], fun c hc => by rw [hB c hc, fb.2 c hc, t1.1 c (by omega)]⟩
  by_cases hx : 0 ≤ x ∧ x ≤ 3
  · obtain ⟨k, k3, rfl⟩ := in_nI (m := 3) (by decide) hx
    obtain ⟨t, tt⟩ : ∃ t : Nat → Nat, ∀ k, k < n → a 75 k = nI (t k) ∧ t k < 256 := ⟨fun k => (a 75 k).toNatClampNeg, fun k hk => by
      obtain ⟨v, -, v2, v3⟩ := (n3 k hk).2
      show a 75 k = nI (a 75 k).toNatClampNeg ∧ (a 75 k).toNatClampNeg < 256
      rw [v3, nI_clamp (by omega)]
      exact ⟨rfl, by omega⟩⟩
    have hT : TP a0 t n := ⟨n4, fun k hk => by rw [t0.1 75 (by decide)]; exact tt k hk⟩
    obtain ⟨a1, c1, rs⟩ := spl_p hT
    have hTr : TPr (mw b0 123 24 0) t n := ⟨n4, by rw [mw_k (by decide), t1.2.1 11 rfl (by decide) (by decide)]; exact n2, fun k hk => by rw [mw_o (by decide), t1.1 130 (by decide), (n3 k hk).1]; exact tt k hk, fun k hk => by rw [mw_o (by decide), t1.1 131 (by decide)]; exact n5 k hk⟩
    obtain ⟨b1, r1, ft, P1⟩ := firstR hTr ((mw_k (by decide)).trans z12)
    obtain ⟨L, hL⟩ : ∃ L, L = tkz t n (n + 1) 0 := ⟨_, rfl⟩
    have tl := tk_len (t := t) (n := n) (n + 1) 0 (Nat.zero_le n)
    rw [← hL] at rs P1 tl
    have A1 : ATt a1 L 0 := by
      refine ⟨P1.1, by omega, ?_, ?_, fun i hi => ?_⟩
      · rw [rs.2.1 4 (by decide), mw_k (by decide), mw_k (by decide), mwSelf]
        rfl
      · rw [rs.2.2.1, Nat.zero_add]
      · have := rs.2.2.2.2 i hi
        rw [Nat.zero_add] at this
        exact this
    have fA1 : frA a0 a1 := by
      have o : ∀ c, c ≠ 76 → c ≠ 77 → c ≠ 78 → c ≠ 79 → a1 c = a0 c := fun c h1 h2 h3 h4 => by rw [rs.1 c h1 h2 h3 h4, mw_o h1, mw_o h1, mw_o h1, mw_o h1]
      refine ⟨fun c k hr => ?_, fun c hc => o c (by omega) (by omega) (by omega) (by omega)⟩
      by_cases h1 : c = 76
      · subst h1
        exact Bool.noConfusion (show false = true from hr)
      · by_cases h2 : c = 77
        · subst h2
          exact Bool.noConfusion (show false = true from hr)
        · by_cases h3 : c = 78
          · subst h3
            exact Bool.noConfusion (show false = true from hr)
          · by_cases h4 : c = 79
            · subst h4
              exact Bool.noConfusion (show false = true from hr)
            · rw [o c h1 h2 h3 h4]
    have fB1 : frB b0 b1 := frB_t (frB_mw rfl (by decide)) (frB_T ft)
    have H0 : HZ a0 b0 (nF a) (sz a) := ⟨hHS.1, (congrFun (t0.1 2 (by decide)) 2).trans hHS.2.1, (t1.2.1 6 rfl (by decide) (by decide)).trans hHS.2.2.1, fun f hf => by
      obtain ⟨k1, k2, k3, k4⟩ := hHS.2.2.2.1 f hf
      exact ⟨k1, k2, (congrFun (t0.1 4 (by decide)) f).trans k3, (congrFun (t1.1 127 (by decide)) f).trans k4⟩⟩
    have H1 := HZ_fr H0 fA1 fB1
    have ec : F_C_text (nI k) a = if nI k = 0 then (F_P_readLaw a1).bind fun z6 => (if z6.1 = 0 then some ((-1), mw (mw z6.2 0 10 (z6.2 76 6)) 0 11 (mw z6.2 0 10 (z6.2 76 6) 76 7)) else (F_C_takeText (nI k) z6.2).bind fun z9 => some (z9.1, z9.2)) else (F_P_readLines (nI k) a1).bind fun z10 => (if z10.1 = 0 then some ((-1), mw (mw z10.2 0 10 (z10.2 76 6)) 0 11 (mw z10.2 0 10 (z10.2 76 6) 76 7)) else (F_C_takeText (nI k) z10.2).bind fun z13 => some (z13.1, z13.2)) := by
      simp only [F_C_text, ← ha0, C_within, if_pos hx, Option.bind_some, one0, if_false, n1, c1]
    have er : F_R_readsText (nI k) b0 = if nI k = 1 then (F_R_readOrders b1).bind fun z3 => some (z3.1, z3.2) else if nI k = 2 then (F_R_readVisits b1).bind fun z4 => some (z4.1, z4.2) else if nI k = 3 then (F_R_readDoors b1).bind fun z5 => some (z5.1, z5.2) else (F_R_readLaw b1).bind fun z6 => some (z6.1, z6.2) := by
      simp only [F_R_readsText, r1, Option.bind_some]
    have erF : ∀ b', F_R_readsText (nI k) b0 = some (-1, b') → F_R_text (nI k) b = some (-1, mw (mw (mw b' 123 31 (b' 123 29)) 123 32 (mw b' 123 31 (b' 123 29) 123 30)) 123 11 0) := fun b' hb => by
      simp only [F_R_text, ← hb0, R_isIn, if_pos hx, Option.bind_some, one0, if_false, hb, if_true]
    have erO : ∀ m b', m ≤ 16 → F_R_readsText (nI k) b0 = some (nI m, b') → F_R_text (nI k) b = if nI k = 0 then (F_R_takesLaw (nI m) (mw b' 123 11 0)).bind fun z18 => some (nI m, z18.2) else (F_R_takesOther (nI k) (nI m) (mw b' 123 11 0)).bind fun z19 => some (nI m, z19.2) := fun m b' hm hb => by
      have nm : ¬ nI m = -1 := nI_m1 (by omega)
      simp only [F_R_text, ← hb0, R_isIn, if_pos hx, Option.bind_some, one0, if_false, hb, if_neg nm]
    have failC : ∀ a' b', flY a1 b1 a' b' → F_C_text (nI k) a = some ((-1), mw (mw a' 0 10 (a' 76 6)) 0 11 (mw a' 0 10 (a' 76 6) 76 7)) → F_R_readsText (nI k) b0 = some (-1, b') → ∃ (v : Int32) (a' b' : Mem), F_C_text (nI k) a = some (v, a') ∧ F_R_text (nI k) b = some (v, b') ∧ I2 a' b' ∧ (∀ c, ¬ c < 123 → a' c = a c) ∧ ∀ c, c < 123 → b' c = b c := fun a' b' hf e1 e2 => by
      have fa := frA_t fA1 hf.1
      have fb := frB_t fB1 hf.2.1
      have e2 := erF b' e2
      have q1 : mw a' 0 10 (a' 76 6) 76 7 = b' 123 30 := (congrFun (mw_o (by decide)) 7).trans hf.2.2.2
      have q2 : mw b' 123 31 (b' 123 29) 123 30 = b' 123 30 := mw_k (by decide)
      rw [q1, hf.2.2.1] at e1
      rw [q2] at e2
      exact fin (-1) a' b' _ _ fa fb (fun c hc => (mw_o (by omega)).trans (mw_o (by omega))) (fun c hc => (mw_o (by omega)).trans ((mw_o (by omega)).trans (mw_o (by omega)))) e1 e2 (fail_I h t0 t1 fa fb _ _)
    have k4 : k = 0 ∨ k = 1 ∨ k = 2 ∨ k = 3 := by omega
    rcases k4 with rfl | rfl | rfl | rfl
    · rw [if_pos (show nI 0 = 0 from rfl)] at ec
      rw [if_neg (show ¬ nI 0 = 1 by decide), if_neg (show ¬ nI 0 = 2 by decide), if_neg (show ¬ nI 0 = 3 by decide)] at er
      obtain ⟨a2, ha2⟩ : ∃ a2, a2 = mw (mw a1 80 1 0) 80 6 0 := ⟨_, rfl⟩
      have o2 : ∀ c, c ≠ 80 → a2 c = a1 c := fun c hc => by rw [ha2, mw_o hc, mw_o hc]
      have fA2 : frA a1 a2 := by
        rw [ha2]
        exact frA_t (frA_mw rfl (by decide)) (frA_mw rfl (by decide))
      have S0 : ST a2 b1 t n L 0 [] [] 0 0 := by
        refine ⟨ATt_o A1 (o2 76 (by decide)) (o2 77 (by decide)) (o2 78 (by decide)) (o2 79 (by decide)), P1, ⟨?_, fun i hi => absurd hi (Nat.not_lt_zero i)⟩, ⟨?_, fun i hi => absurd hi (Nat.not_lt_zero i)⟩, Nat.le_refl 0, Nat.le_refl 0⟩
        · rw [ha2, mw_k (by decide), mwSelf]
          rfl
        · rw [ft.2 25 (by decide) (by decide) (by decide) (by decide), mw_k (by decide)]
          exact z25
      have h26 : b1 123 26 = 0 := by
        rw [ft.2 26 (by decide) (by decide) (by decide) (by decide), mw_k (by decide)]
        exact z26
      have h24 : b1 123 24 = 0 := by
        rw [ft.2 24 (by decide) (by decide) (by decide) (by decide), mwSelf]
      have e6 : a2 80 6 = nI 0 := by
        rw [ha2, mwSelf]
        rfl
      have el : F_P_readLaw a1 = F_P_readLaw_5 gF (nI 0) a2 := by
        rw [ha2]
        rfl
      have rl : F_R_readLaw b1 = F_R_readLaw_2 gF (nI 0) b1 := rfl
      rcases lawL 401 0 0 gF gF a2 b1 [] [] (by omega) (gF_9 (by decide)) (gF_9 (by decide)) S0 e6 (by decide) h26 (fun l hl => absurd hl (Nat.not_lt_zero l)) with ⟨m, j', a3, b3, C, R, m16', y1, y2, y3, y4, y5, y6, y7, y8⟩ | ⟨a3, b3, y1, y2, y3⟩
      · obtain ⟨A, w1, w2, w3, w4, w5, w6, w7, w8⟩ := cpLw a3
        have jl := y3.1.1
        have lC := y3.2.2.2.2.1
        have lR := y3.2.2.2.2.2
        have fa := frA_t fA1 (frA_t fA2 y6)
        have fb := frB_t fB1 y7
        rw [el, y1] at ec
        rw [rl, y2] at er
        simp only [Option.bind_some, one0, if_false] at ec er
        have tt1 : F_C_takeText (nI 0) a3 = some (A 7 6, A) := by
          rw [F_C_takeText, if_pos (show nI 0 = 0 from rfl), w1]
          rfl
        rw [tt1] at ec
        simp only [Option.bind_some] at ec
        have e2 := erO m b3 m16' er
        rw [if_pos (show nI 0 = 0 from rfl), tkL m16' (show R.length ≤ 400 by omega) ((mw_k (by decide)).trans (y8.trans h24)) ((mw_k (by decide)).trans y3.2.2.2.1.1)] at e2
        rw [w2, y4] at ec
        simp only [Option.bind_some] at e2
        refine fin (nI m) a3 b3 A _ fa fb (fun c hc => w8 c (by omega)) (fun c hc => ?_) ec e2 (law_I h t0 t1 fa fb m16' y3.2.2.1 y3.2.2.2.1 (by omega) (by omega) y5 (w2.trans y4) w3 w4 w5 w6 w7 w8)
        rw [mw_o (by omega), cp_o (cz2_f (by omega) (by omega)), cp_o (cz4_f (by omega) (by omega) (by omega) (by omega)), mw_o (by omega)]
      · rw [el, y1] at ec
        rw [rl, y2] at er
        simp only [Option.bind_some, if_true] at ec er
        exact failC a3 b3 (flY_t fA2 (frB_0 b1) y3) ec er
    · rw [if_neg (show ¬ nI 1 = 0 by decide)] at ec
      rw [if_pos (show nI 1 = 1 from rfl)] at er
      rcases lnO A1 P1 H1 with ⟨m, a3, b3, m16', y1, y2, y4, y5, y6, y7⟩ | ⟨a3, b3, y1, y2, y3⟩
      · have fa := frA_t fA1 y6
        have fb := frB_t fB1 y7
        obtain ⟨g, g1, g2⟩ := cpN (h0 := 15) (d := 16) (by decide) (mw a3 0 6 0)
        have v88 : mw a3 0 6 0 88 1 = nI m := (congrFun (mw_o (by decide)) 1).trans y4
        rw [v88] at g2
        have y1 : F_P_readLines (nI 1) a1 = some (1, a3) := y1
        rw [y1] at ec
        rw [y2] at er
        simp only [Option.bind_some, one0, if_false] at ec er
        have tt1 : F_C_takeText (nI 1) a3 = some (nI m, mw (rp (mw a3 0 6 0) 16 g) 15 1 (nI m)) := by
          rw [F_C_takeText, if_neg (show ¬ nI 1 = 0 by decide), if_neg (show ¬ nI 1 = 3 by decide), show F_C_forgetDeeds a3 = some (0, mw a3 0 6 0) from rfl]
          simp only [Option.bind_some]
          rw [if_pos (show nI 1 = 1 from rfl), g2]
          simp only [Option.bind_some, mwSelf]
        rw [tt1] at ec
        have e2 := erO m b3 m16' er
        rw [if_neg (show ¬ nI 1 = 0 by decide), show F_R_takesOther (nI 1) (nI m) (mw b3 123 11 0) = _ from tkO m16' _] at e2
        simp only [Option.bind_some] at ec e2
        refine fin (nI m) a3 b3 _ _ fa fb (fun c hc => ?_) (fun c hc => ?_) ec e2 (ord_I h t0 t1 fa fb m16' y4 y5 (fun k hk => (g1 k hk).trans (congrFun (mw_o (by decide)) k)))
        · rw [mw_o (by omega), rp_o (by omega), mw_o (by omega)]
        · rw [mw_o (by omega), mw_o (by omega), cp_o (beq_f (by omega)), mw_o (by omega)]
      · have y1 : F_P_readLines (nI 1) a1 = some (0, a3) := y1
        rw [y1] at ec
        rw [y2] at er
        simp only [Option.bind_some, if_true] at ec er
        exact failC a3 b3 y3 ec er
    · rw [if_neg (show ¬ nI 2 = 0 by decide)] at ec
      rw [if_neg (show ¬ nI 2 = 1 by decide), if_pos (show nI 2 = 2 from rfl)] at er
      rcases lnV A1 P1 H1 with ⟨m, a3, b3, m16', y1, y2, y4, y5, y6, y7⟩ | ⟨a3, b3, y1, y2, y3⟩
      · have fa := frA_t fA1 y6
        have fb := frB_t fB1 y7
        obtain ⟨g, g1, g2⟩ := cpN (h0 := 17) (d := 18) (by decide) (mw a3 0 6 0)
        have v88 : mw a3 0 6 0 88 1 = nI m := (congrFun (mw_o (by decide)) 1).trans y4
        rw [v88] at g2
        have y1 : F_P_readLines (nI 2) a1 = some (1, a3) := y1
        rw [y1] at ec
        rw [y2] at er
        simp only [Option.bind_some, one0, if_false] at ec er
        have tt1 : F_C_takeText (nI 2) a3 = some (nI m, mw (rp (mw a3 0 6 0) 18 g) 17 1 (nI m)) := by
          rw [F_C_takeText, if_neg (show ¬ nI 2 = 0 by decide), if_neg (show ¬ nI 2 = 3 by decide), show F_C_forgetDeeds a3 = some (0, mw a3 0 6 0) from rfl]
          simp only [Option.bind_some]
          rw [if_neg (show ¬ nI 2 = 1 by decide), if_pos (show nI 2 = 2 from rfl), g2]
          simp only [Option.bind_some, mwSelf]
        rw [tt1] at ec
        have e2 := erO m b3 m16' er
        rw [if_neg (show ¬ nI 2 = 0 by decide), show F_R_takesOther (nI 2) (nI m) (mw b3 123 11 0) = _ from tkV m16' _] at e2
        simp only [Option.bind_some] at ec e2
        refine fin (nI m) a3 b3 _ _ fa fb (fun c hc => ?_) (fun c hc => ?_) ec e2 (vis_I h t0 t1 fa fb m16' y4 y5 (fun k hk => (g1 k hk).trans (congrFun (mw_o (by decide)) k)))
        · rw [mw_o (by omega), rp_o (by omega), mw_o (by omega)]
        · rw [mw_o (by omega), mw_o (by omega), cp_o (beq_f (by omega)), mw_o (by omega)]
      · have y1 : F_P_readLines (nI 2) a1 = some (0, a3) := y1
        rw [y1] at ec
        rw [y2] at er
        simp only [Option.bind_some, if_true] at ec er
        exact failC a3 b3 y3 ec er
    · rw [if_neg (show ¬ nI 3 = 0 by decide)] at ec
      rw [if_neg (show ¬ nI 3 = 1 by decide), if_neg (show ¬ nI 3 = 2 by decide), if_pos (show nI 3 = 3 from rfl)] at er
      rcases lnD A1 P1 H1 with ⟨m, a3, b3, m16', y1, y2, y4, y5, y6, y7⟩ | ⟨a3, b3, y1, y2, y3⟩
      · have fa := frA_t fA1 y6
        have fb := frB_t fB1 y7
        obtain ⟨g, g1, g2⟩ := cpN (h0 := 19) (d := 20) (by decide) a3
        rw [y4] at g2
        have y1 : F_P_readLines (nI 3) a1 = some (1, a3) := y1
        rw [y1] at ec
        rw [y2] at er
        simp only [Option.bind_some, one0, if_false] at ec er
        have tt1 : F_C_takeText (nI 3) a3 = some (nI m, mw (rp a3 20 g) 19 1 (nI m)) := by
          rw [F_C_takeText, if_neg (show ¬ nI 3 = 0 by decide), if_pos (show nI 3 = 3 from rfl), if_neg (show ¬ nI 3 = 1 by decide), if_neg (show ¬ nI 3 = 2 by decide), g2]
          simp only [Option.bind_some, mwSelf]
        rw [tt1] at ec
        have e2 := erO m b3 m16' er
        rw [if_neg (show ¬ nI 3 = 0 by decide), show F_R_takesOther (nI 3) (nI m) (mw b3 123 11 0) = _ from tkD m16' _] at e2
        simp only [Option.bind_some] at ec e2
        refine fin (nI m) a3 b3 _ _ fa fb (fun c hc => ?_) (fun c hc => ?_) ec e2 (doo_I h t0 t1 fa fb m16' y4 y5 g1)
        · rw [mw_o (by omega), rp_o (by omega)]
        · rw [mw_o (by omega), cp_o (beq_f (by omega)), mw_o (by omega)]
      · have y1 : F_P_readLines (nI 3) a1 = some (0, a3) := y1
        rw [y1] at ec
        rw [y2] at er
        simp only [Option.bind_some, if_true] at ec er
        exact failC a3 b3 y3 ec er
  · refine fin (-1) a0 b0 a0 (mw b0 123 11 0) (frA_0 a0) (frB_0 b0) (fun _ _ => rfl) (fun c hc => mw_o (by omega)) ?_ ?_ (none_I h t0 t1)
    · simp only [F_C_text, ← ha0, C_within, if_neg hx, Option.bind_some, if_true]
    · simp only [F_R_text, ← hb0, R_isIn, if_neg hx, Option.bind_some, if_true]
theorem g_text (x : Int32) : Good Inv (F_C_text x) (F_R_text x) := good_of (p_text x)
