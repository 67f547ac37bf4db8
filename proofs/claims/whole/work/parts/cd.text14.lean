/-! ===== text: products and sums ===== -/
theorem ruN {b : Mem} {t : Nat → Nat} {n j : Nat} {L : List (Nat × Nat × Nat × Nat)} {R : List (Int32 × Int32)} (hP : PSt b t n L j) (hR : HR b R) (hl : R.length < 400) (c64 : (tkN L j).1 = 64) : ∃ b', F_R_readUnit b = some (0, b') ∧ PSt b' t n L (j + 1) ∧ HR b' (R ++ [(0, nI (tkN L j).2.1)]) ∧ frS b b' := by
  obtain ⟨t1, t2, t3⟩ := hP.2.2.1.2.2.2.2.1 c64
  have Pe : PSt (emM b R.length 0 (nI (tkN L j).2.1)) t n L j := PSt_em hP
  obtain ⟨b', r1, r2, r3⟩ := nextR Pe (by omega)
  refine ⟨b', ?_, r3, HR_T (HR_em hR) r2, frS_t frS_em (frS_T r2)⟩
  have n2 : ¬ b 123 14 = 2 := by rw [t1]; decide
  rw [F_R_readUnit, if_neg n2, if_pos t1, t2, emE hR hl]
  simp only [Option.bind_some, r1]
theorem jQ {t : Nat → Nat} {n sc sr : Nat} {L : List (Nat × Nat × Nat × Nat)} {C0 : List Int32} {R0 : List (Int32 × Int32)} : ∀ (q j fu f2 fr : Nat) (a b : Mem) (c : List Int32) (r : List (Int32 × Int32)), L.length ≤ j + q → q ≤ 500 → q < fu → q < f2 → q < fr → ST a b t n L j (C0 ++ c) (R0 ++ r) sc sr → eqP anyV 2 c r → (∃ j' a' b' c' r', j ≤ j' ∧ F_P_readProduct_49 (F_P_readProduct_2 f2) fu a = some (1, a') ∧ F_R_readProduct_6 fr b = some (0, b') ∧ ST a' b' t n L j' (C0 ++ c') (R0 ++ r') sc sr ∧ eqP anyV 2 c' r' ∧ frP a a' ∧ frS b b') ∨ ∃ a' b', F_P_readProduct_49 (F_P_readProduct_2 f2) fu a = some (0, a') ∧ F_R_readProduct_6 fr b = some (-1, b') ∧ flY a b a' b'
  | 0, j, fu, f2, fr, a, b, c, r, hq, _, _, _, _, h, _ => by
    have := h.1.1
    omega
  | q + 1, j, fu, f2, fr, a, b, c, r, hq, hq5, q1, q2, q3, h, he => by
    obtain ⟨f, rfl⟩ : ∃ f, fu = f + 1 := ⟨fu - 1, by omega⟩
    obtain ⟨g, rfl⟩ : ∃ g, f2 = g + 1 := ⟨f2 - 1, by omega⟩
    obtain ⟨f', rfl⟩ : ∃ f', fr = f' + 1 := ⟨fr - 1, by omega⟩
    have hA := h.1
    have hP := h.2.1
    have k66 := tk_ne hP
    have ne := notEnd hA
    have kd1 := kindE hA
    have i42 : F_R_isSign 42 b = some (if (tkN L j).1 = 42 then 1 else 0, b) := isSE (w := 42) hP (by decide)
    have i47 : F_R_isSign 47 b = some (if (tkN L j).1 = 47 then 1 else 0, b) := isSE (w := 47) hP (by decide)
    have n47 : nI (tkN L j).1 = 47 ↔ (tkN L j).1 = 47 := nI_eq (b := 47) (by omega) (by decide)
    have n42 : nI (tkN L j).1 = 42 ↔ (tkN L j).1 = 42 := nI_eq (b := 42) (by omega) (by decide)
    by_cases c47 : (tkN L j).1 = 47
    · rw [if_neg (by omega)] at i42
      rw [if_pos c47] at i47
      obtain ⟨b1, r1, fs1, ft1, S1, av, j4⟩ := ST_n h (by omega)
      have ec : F_P_readProduct_49 (F_P_readProduct_2 (g + 1)) (f + 1) a = (F_P_takeNumber 1 9999 (avM a j)).bind fun z5 => if z5.1 = 0 then some (0, z5.2) else (F_L_put 5 (z5.2 76 5) z5.2).bind fun z6 => F_P_readProduct_49 (F_P_readProduct_2 (g + 1)) f z6.2 := by
        rw [F_P_readProduct_49, if_neg ne, kd1]
        simp only [Option.bind_some, if_pos (n47.mpr c47), av]
      have er : F_R_readProduct_6 (f' + 1) b = if b1 123 14 = 3 then (if b1 123 15 = 0 then (F_R_errs 2 b1).bind fun z5 => some (z5.1, z5.2) else (F_R_readUnit b1).bind fun z6 => if z6.1 = (-1) then some ((-1), z6.2) else (F_R_emits 5 0 z6.2).bind fun z7 => F_R_readProduct_6 f' z7.2) else (F_R_errs 1 b1).bind fun z12 => some (z12.1, z12.2) := by
        rw [F_R_readProduct_6, i42]
        simp only [Option.bind_some, if_true, i47, one0, if_false, i42, r1]
      obtain ⟨A1, P1, C1, R1, l1, l2⟩ := id S1
      have hn := isNE P1
      by_cases c64 : (tkN L (j + 1)).1 = 64
      · obtain ⟨t1, t2, t3⟩ := P1.2.2.1.2.2.2.2.1 c64
        rw [if_pos t1, t2] at er
        by_cases c0 : (tkN L (j + 1)).2.1 = 0
        · have nk : ¬ okN L (j + 1) 1 9999 := fun k => by
            have := k.2.1
            rw [c0] at this
            exact absurd this (by decide)
          have fk : fkN L (j + 1) = 2 := if_pos c64
          have x1c := (tnC A1 1 9999 (tk_ne P1)).2 nk
          rw [fk] at x1c
          rw [x1c] at ec
          rw [if_pos (by rw [c0]; rfl), errE P1 2] at er
          simp only [Option.bind_some, if_true] at ec er
          exact Or.inr ⟨_, _, ec, er, flY_t (frA_P frP_76) (frB_Q fs1.1) flY_1⟩
        · have ok : okN L (j + 1) 1 9999 := ⟨c64, nI_le (a := 1) (by omega) (by omega), nI_le (b := 9999) t3 (by decide)⟩
          have x1c := (tnC A1 1 9999 (tk_ne P1)).1 ok
          rw [if_neg (nI_ne0 (by omega) (by omega))] at er
          obtain ⟨b2, u1, u2, u3, u4⟩ := ruN P1 R1 (by omega) c64
          have hl := u2.1
          have hl2 := A1.2.1
          have A2 := ATt_nm (v := (tkN L (j + 1)).2.1) A1 hl
          have HC2 : HC (nmM (avM a j) (j + 1) (tkN L (j + 1)).2.1) (C0 ++ c) := HC_76 (HC_76 C1)
          have p1 : F_L_put 5 (nI (tkN L (j + 1)).2.1) (nmM (avM a j) (j + 1) (tkN L (j + 1)).2.1) = some (0, ptM (nmM (avM a j) (j + 1) (tkN L (j + 1)).2.1) (C0 ++ c).length (wdA 5 (tkN L (j + 1)).2.1)) := putE HC2 (by omega) 5 _
          have e5 : nmM (avM a j) (j + 1) (tkN L (j + 1)).2.1 76 5 = nI (tkN L (j + 1)).2.1 := by
            unfold nmM
            rw [mw_k (by decide), mwSelf]
          have em := emE u3 (by rw [len1]; omega) 5 0
          rw [x1c] at ec
          simp only [Option.bind_some, one0, if_false, e5, p1] at ec
          rw [u1] at er
          simp only [Option.bind_some, em] at er
          rw [if_neg (by decide)] at er
          have S2 : ST (ptM (nmM (avM a j) (j + 1) (tkN L (j + 1)).2.1) (C0 ++ c).length (wdA 5 (tkN L (j + 1)).2.1)) (emM b2 (R0 ++ r ++ [(0, nI (tkN L (j + 1)).2.1)]).length 5 0) t n L (j + 1 + 1) (C0 ++ (c ++ [wdA 5 (tkN L (j + 1)).2.1])) (R0 ++ (r ++ [(0, nI (tkN L (j + 1)).2.1)] ++ [(5, 0)])) sc sr := by
            rw [← List.append_assoc, ← List.append_assoc, ← List.append_assoc]
            refine ⟨ATt_pt A2, PSt_em u2, HC_pt HC2, HR_em u3, ?_, ?_⟩
            · rw [len1]; omega
            · rw [len1, len1]; omega
          have fP2 : frP a (ptM (nmM (avM a j) (j + 1) (tkN L (j + 1)).2.1) (C0 ++ c).length (wdA 5 (tkN L (j + 1)).2.1)) := frP_t frP_76 (frP_t (frP_t frP_76 frP_76) frP_pt)
          have fS2 : frS b (emM b2 (R0 ++ r ++ [(0, nI (tkN L (j + 1)).2.1)]).length 5 0) := frS_t fs1 (frS_t u4 frS_em)
          rcases jQ q (j + 1 + 1) f (g + 1) f' _ _ _ _ (by omega) (by omega) (by omega) (by omega) (by omega) S2 (e_part he (by omega) t3) with ⟨j', a', b', c', r', y0, y1, y2, y3, y4, y5, y6⟩ | ⟨a', b', y1, y2, y3⟩
          · exact Or.inl ⟨j', a', b', c', r', by omega, ec.trans y1, er.trans y2, y3, y4, frP_t fP2 y5, frS_t fS2 y6⟩
          · exact Or.inr ⟨a', b', ec.trans y1, er.trans y2, flY_t (frA_P fP2) (frB_Q fS2.1) y3⟩
      · have nk : ¬ okN L (j + 1) 1 9999 := fun k => c64 k.1
        have fk : fkN L (j + 1) = 1 := if_neg c64
        have x1c := (tnC A1 1 9999 (tk_ne P1)).2 nk
        rw [fk] at x1c
        rw [x1c] at ec
        rw [if_neg (fun k => c64 (hn.1.mp k)), errE P1 1] at er
        simp only [Option.bind_some, if_true] at ec er
        exact Or.inr ⟨_, _, ec, er, flY_t (frA_P frP_76) (frB_Q fs1.1) flY_1⟩
    · by_cases c42 : (tkN L j).1 = 42
      · rw [if_pos c42] at i42
        obtain ⟨b1, r1, fs1, ft1, S1, av, j4⟩ := ST_n h (by omega)
        have ec : F_P_readProduct_49 (F_P_readProduct_2 (g + 1)) (f + 1) a = F_P_readProduct_2 (g + 1) 1 (avM a j) := by
          rw [F_P_readProduct_49, if_neg ne, kd1]
          simp only [Option.bind_some, if_neg (fun k => c47 (n47.mp k)), kd1, if_pos (n42.mpr c42), av]
        have er : F_R_readProduct_6 (f' + 1) b = (F_R_readUnit b1).bind fun z34 => if z34.1 = (-1) then some ((-1), z34.2) else (F_R_emits 4 0 z34.2).bind fun z36 => F_R_readProduct_6 f' z36.2 := by
          rw [F_R_readProduct_6, i42]
          simp only [Option.bind_some, one0, if_false, i42, r1]
        rcases jU S1 with ⟨w, o, x, a2, b2, u1, u2, u3, u4, u5, u6⟩ | ⟨a2, b2, u1, u2, u3⟩
        · obtain ⟨a3, b3, p1, p2, p3, p4, p5⟩ := ST_p u3 4 0 4 0
          have p1 : F_L_put 4 0 a2 = some (0, a3) := p1
          rw [u1 g 1, tlC, if_neg (by decide), p1] at ec
          rw [u2] at er
          simp only [Option.bind_some] at ec er
          rw [if_neg (by decide), p2] at er
          simp only [Option.bind_some] at er
          have S3 : ST a3 b3 t n L (j + 1 + 1) (C0 ++ (c ++ [w] ++ [wdA 4 0])) (R0 ++ (r ++ [(o, x)] ++ [(4, 0)])) sc sr := by
            rw [← List.append_assoc, ← List.append_assoc, ← List.append_assoc, ← List.append_assoc]
            exact p3
          have fP3 : frP a a3 := frP_t frP_76 (frP_t u5 p4)
          have fS3 : frS b b3 := frS_t fs1 (frS_t u6 p5)
          rcases jQ q (j + 1 + 1) gF g f' a3 b3 _ _ (by omega) (by omega) (by rw [gF_eq]; omega) (by omega) (by omega) S3 (e_times he u4) with ⟨j', a', b', c', r', y0, y1, y2, y3, y4, y5, y6⟩ | ⟨a', b', y1, y2, y3⟩
          · exact Or.inl ⟨j', a', b', c', r', by omega, ec.trans y1, er.trans y2, y3, y4, frP_t fP3 y5, frS_t fS3 y6⟩
          · exact Or.inr ⟨a', b', ec.trans y1, er.trans y2, flY_t (frA_P fP3) (frB_Q fS3.1) y3⟩
        · rw [u1 g 1] at ec
          rw [u2] at er
          simp only [Option.bind_some, if_true] at er
          exact Or.inr ⟨a2, b2, ec, er, flY_t (frA_P frP_76) (frB_Q fs1.1) u3⟩
      · rw [if_neg c42] at i42
        rw [if_neg c47] at i47
        refine Or.inl ⟨j, a, b, c, r, Nat.le_refl j, ?_, ?_, h, he, frP_0 a, frS_0 b⟩
        · rw [F_P_readProduct_49, if_neg ne, kd1]
          simp only [Option.bind_some, if_neg (fun k => c47 (n47.mp k)), kd1, if_neg (fun k => c42 (n42.mp k))]
        · rw [F_R_readProduct_6, i42]
          simp only [Option.bind_some, if_true, i47]
theorem gF_s : ∃ N, gF = N + 1 ∧ 500 < N := ⟨999999, gF_eq, by decide⟩
theorem ST_len {a b : Mem} {t : Nat → Nat} {n j sc sr : Nat} {L : List (Nat × Nat × Nat × Nat)} {C : List Int32} {R : List (Int32 × Int32)} (h : ST a b t n L j C R sc sr) : L.length ≤ 401 ∧ j < L.length := ⟨h.1.2.1, h.1.1⟩
/-- a product -/
theorem jP {a b : Mem} {t : Nat → Nat} {n j sc sr : Nat} {L : List (Nat × Nat × Nat × Nat)} {C : List Int32} {R : List (Int32 × Int32)} (h : ST a b t n L j C R sc sr) : (∃ j' a' b' c r, j < j' ∧ F_P_readProduct a = some (1, a') ∧ F_R_readProduct b = some (0, b') ∧ ST a' b' t n L j' (C ++ c) (R ++ r) sc sr ∧ eqP anyV 2 c r ∧ frP a a' ∧ frS b b') ∨ ∃ a' b', F_P_readProduct a = some (0, a') ∧ F_R_readProduct b = some (-1, b') ∧ flY a b a' b' := by
  obtain ⟨N, hN, hN5⟩ := gF_s
  have hl := ST_len h
  have ec : F_P_readProduct a = F_P_readProduct_2 (N + 1) 0 a := by rw [F_P_readProduct, hN]
  have er : F_R_readProduct b = (F_R_readUnit b).bind fun z1 => if z1.1 = (-1) then some ((-1), z1.2) else F_R_readProduct_6 gF z1.2 := rfl
  rcases jU h with ⟨w, o, x, a2, b2, u1, u2, u3, u4, u5, u6⟩ | ⟨a2, b2, u1, u2, u3⟩
  · rw [u1 N 0, tlC, if_pos rfl] at ec
    rw [u2] at er
    simp only [Option.bind_some] at er
    rw [if_neg (by decide)] at er
    rcases jQ 500 (j + 1) gF N gF a2 b2 [w] [(o, x)] (by omega) (Nat.le_refl _) (by omega) hN5 (by omega) u3 (eqP_m u4 (by decide)) with ⟨j', a', b', c', r', y0, y1, y2, y3, y4, y5, y6⟩ | ⟨a', b', y1, y2, y3⟩
    · exact Or.inl ⟨j', a', b', c', r', by omega, ec.trans y1, er.trans y2, y3, y4, frP_t u5 y5, frS_t u6 y6⟩
    · exact Or.inr ⟨a', b', ec.trans y1, er.trans y2, flY_t (frA_P u5) (frB_Q u6.1) y3⟩
  · rw [u1 N 0] at ec
    rw [u2] at er
    simp only [Option.bind_some, if_true] at er
    exact Or.inr ⟨a2, b2, ec, er, u3⟩
noncomputable def cSm (m : Nat) (s : Mem) : Option (Int32 × Mem) := (F_P_kind s).bind fun z2 => if z2.1 = 43 then F_P_readSum_2 m z2.1 (mw z2.2 76 4 ((z2.2 76 4) + 1)) else if z2.1 = 45 then F_P_readSum_2 m z2.1 (mw z2.2 76 4 ((z2.2 76 4) + 1)) else some (1, z2.2)
theorem rs_2 {a a1 : Mem} {L : List (Nat × Nat × Nat × Nat)} {j m : Nat} {x1 v : Int32} (hA : ATt a L j) (hp : F_P_readProduct a = some (v, a1)) : F_P_readSum_2 (m + 1) x1 a = if v = 0 then some (0, a1) else if x1 = 0 then cSm m a1 else if x1 = 43 then (F_L_put 2 0 a1).bind fun z => cSm m z.2 else (F_L_put 3 0 a1).bind fun z => cSm m z.2 := by
  rw [F_P_readSum_2, if_neg (notEnd hA), hp]
  rfl
theorem jT {t : Nat → Nat} {n sc sr : Nat} {L : List (Nat × Nat × Nat × Nat)} {C0 : List Int32} {R0 : List (Int32 × Int32)} : ∀ (q j fu fr : Nat) (a b : Mem) (c : List Int32) (r : List (Int32 × Int32)), L.length ≤ j + q → q < fu → q < fr → ST a b t n L j (C0 ++ c) (R0 ++ r) sc sr → eqP anyV 3 c r → (∃ j' a' b' c' r', j ≤ j' ∧ cSm fu a = some (1, a') ∧ F_R_readSum_6 fr b = some (0, b') ∧ ST a' b' t n L j' (C0 ++ c') (R0 ++ r') sc sr ∧ eqP anyV 3 c' r' ∧ frP a a' ∧ frS b b') ∨ ∃ a' b', cSm fu a = some (0, a') ∧ F_R_readSum_6 fr b = some (-1, b') ∧ flY a b a' b'
  | 0, j, fu, fr, a, b, c, r, hq, _, _, h, _ => by
    have := h.1.1
    omega
  | q + 1, j, fu, fr, a, b, c, r, hq, q1, q3, h, he => by
    obtain ⟨g, rfl⟩ : ∃ g, fu = g + 1 := ⟨fu - 1, by omega⟩
    obtain ⟨f', rfl⟩ : ∃ f', fr = f' + 1 := ⟨fr - 1, by omega⟩
    have hA := h.1
    have hP := h.2.1
    have k66 := tk_ne hP
    have kd1 := kindE hA
    have i43 : F_R_isSign 43 b = some (if (tkN L j).1 = 43 then 1 else 0, b) := isSE (w := 43) hP (by decide)
    have i45 : F_R_isSign 45 b = some (if (tkN L j).1 = 45 then 1 else 0, b) := isSE (w := 45) hP (by decide)
    have n43 : nI (tkN L j).1 = 43 ↔ (tkN L j).1 = 43 := nI_eq (b := 43) (by omega) (by decide)
    have n45 : nI (tkN L j).1 = 45 ↔ (tkN L j).1 = 45 := nI_eq (b := 45) (by omega) (by decide)
    by_cases c43 : (tkN L j).1 = 43
    · rw [if_pos c43] at i43
      obtain ⟨b1, r1, fs1, ft1, S1, av, j4⟩ := ST_n h (by omega)
      have v15 : b 123 15 = 43 := by
        rw [(hP.2.2.1.2.2.2.2.2.2.1 (by omega)).2, c43]
        rfl
      have ec : cSm (g + 1) a = F_P_readSum_2 (g + 1) 43 (avM a j) := by
        rw [cSm, kd1]
        simp only [Option.bind_some, if_pos (n43.mpr c43), av]
        rw [n43.mpr c43]
      have er : F_R_readSum_6 (f' + 1) b = (F_R_readProduct b1).bind fun z10 => if z10.1 = (-1) then some ((-1), z10.2) else (F_R_emits 2 0 z10.2).bind fun z11 => F_R_readSum_6 f' z11.2 := by
        rw [F_R_readSum_6, i43]
        simp only [Option.bind_some, one0, if_false, if_pos v15, r1]
      rcases jP S1 with ⟨j2, a2, b2, c2, r2, u0, u1, u2, u3, u4, u5, u6⟩ | ⟨a2, b2, u1, u2, u3⟩
      · obtain ⟨a3, b3, p1, p2, p3, p4, p5⟩ := ST_p u3 2 0 2 0
        have p1 : F_L_put 2 0 a2 = some (0, a3) := p1
        rw [rs_2 S1.1 u1, if_neg (by decide), if_neg (by decide), if_pos rfl, p1] at ec
        rw [u2] at er
        simp only [Option.bind_some] at ec er
        rw [if_neg (by decide), p2] at er
        simp only [Option.bind_some] at er
        have S3 : ST a3 b3 t n L j2 (C0 ++ (c ++ c2 ++ [wdA 2 0])) (R0 ++ (r ++ r2 ++ [(2, 0)])) sc sr := by
          rw [← List.append_assoc, ← List.append_assoc, ← List.append_assoc, ← List.append_assoc]
          exact p3
        have fP3 : frP a a3 := frP_t frP_76 (frP_t u5 p4)
        have fS3 : frS b b3 := frS_t fs1 (frS_t u6 p5)
        rcases jT q j2 g f' a3 b3 _ _ (by omega) (by omega) (by omega) S3 (e_plus he u4) with ⟨j', a', b', c', r', y0, y1, y2, y3, y4, y5, y6⟩ | ⟨a', b', y1, y2, y3⟩
        · exact Or.inl ⟨j', a', b', c', r', by omega, ec.trans y1, er.trans y2, y3, y4, frP_t fP3 y5, frS_t fS3 y6⟩
        · exact Or.inr ⟨a', b', ec.trans y1, er.trans y2, flY_t (frA_P fP3) (frB_Q fS3.1) y3⟩
      · rw [rs_2 S1.1 u1, if_pos rfl] at ec
        rw [u2] at er
        simp only [Option.bind_some, if_true] at er
        exact Or.inr ⟨a2, b2, ec, er, flY_t (frA_P frP_76) (frB_Q fs1.1) u3⟩
    · rw [if_neg c43] at i43
      by_cases c45 : (tkN L j).1 = 45
      · rw [if_pos c45] at i45
        obtain ⟨b1, r1, fs1, ft1, S1, av, j4⟩ := ST_n h (by omega)
        have v15 : ¬ b 123 15 = 43 := by
          rw [(hP.2.2.1.2.2.2.2.2.2.1 (by omega)).2, c45]
          decide
        have ec : cSm (g + 1) a = F_P_readSum_2 (g + 1) 45 (avM a j) := by
          rw [cSm, kd1]
          simp only [Option.bind_some, if_neg (fun k => c43 (n43.mp k)), if_pos (n45.mpr c45), av]
          rw [n45.mpr c45]
        have er : F_R_readSum_6 (f' + 1) b = (F_R_readProduct b1).bind fun z10 => if z10.1 = (-1) then some ((-1), z10.2) else (F_R_emits 3 0 z10.2).bind fun z11 => F_R_readSum_6 f' z11.2 := by
          rw [F_R_readSum_6, i43]
          simp only [Option.bind_some, if_true, i45, one0, if_false, if_neg v15, r1]
        rcases jP S1 with ⟨j2, a2, b2, c2, r2, u0, u1, u2, u3, u4, u5, u6⟩ | ⟨a2, b2, u1, u2, u3⟩
        · obtain ⟨a3, b3, p1, p2, p3, p4, p5⟩ := ST_p u3 3 0 3 0
          have p1 : F_L_put 3 0 a2 = some (0, a3) := p1
          rw [rs_2 S1.1 u1, if_neg (by decide), if_neg (by decide), if_neg (by decide), p1] at ec
          rw [u2] at er
          simp only [Option.bind_some] at ec er
          rw [if_neg (by decide), p2] at er
          simp only [Option.bind_some] at er
          have S3 : ST a3 b3 t n L j2 (C0 ++ (c ++ c2 ++ [wdA 3 0])) (R0 ++ (r ++ r2 ++ [(3, 0)])) sc sr := by
            rw [← List.append_assoc, ← List.append_assoc, ← List.append_assoc, ← List.append_assoc]
            exact p3
          have fP3 : frP a a3 := frP_t frP_76 (frP_t u5 p4)
          have fS3 : frS b b3 := frS_t fs1 (frS_t u6 p5)
          rcases jT q j2 g f' a3 b3 _ _ (by omega) (by omega) (by omega) S3 (e_minus he u4) with ⟨j', a', b', c', r', y0, y1, y2, y3, y4, y5, y6⟩ | ⟨a', b', y1, y2, y3⟩
          · exact Or.inl ⟨j', a', b', c', r', by omega, ec.trans y1, er.trans y2, y3, y4, frP_t fP3 y5, frS_t fS3 y6⟩
          · exact Or.inr ⟨a', b', ec.trans y1, er.trans y2, flY_t (frA_P fP3) (frB_Q fS3.1) y3⟩
        · rw [rs_2 S1.1 u1, if_pos rfl] at ec
          rw [u2] at er
          simp only [Option.bind_some, if_true] at er
          exact Or.inr ⟨a2, b2, ec, er, flY_t (frA_P frP_76) (frB_Q fs1.1) u3⟩
      · rw [if_neg c45] at i45
        refine Or.inl ⟨j, a, b, c, r, Nat.le_refl j, ?_, ?_, h, he, frP_0 a, frS_0 b⟩
        · rw [cSm, kd1]
          simp only [Option.bind_some, if_neg (fun k => c43 (n43.mp k)), if_neg (fun k => c45 (n45.mp k))]
        · rw [F_R_readSum_6, i43]
          simp only [Option.bind_some, if_true, i45]
/-- a sum -/
theorem jM {a b : Mem} {t : Nat → Nat} {n j sc sr : Nat} {L : List (Nat × Nat × Nat × Nat)} {C : List Int32} {R : List (Int32 × Int32)} (h : ST a b t n L j C R sc sr) : (∃ j' a' b' c r, j < j' ∧ F_P_readSum a = some (1, a') ∧ F_R_readSum b = some (0, b') ∧ ST a' b' t n L j' (C ++ c) (R ++ r) sc sr ∧ eqP anyV 3 c r ∧ frP a a' ∧ frS b b') ∨ ∃ a' b', F_P_readSum a = some (0, a') ∧ F_R_readSum b = some (-1, b') ∧ flY a b a' b' := by
  obtain ⟨N, hN, hN5⟩ := gF_s
  have hl := ST_len h
  have ec : F_P_readSum a = F_P_readSum_2 (N + 1) 0 a := by rw [F_P_readSum, hN]
  have er : F_R_readSum b = (F_R_readProduct b).bind fun z1 => if z1.1 = (-1) then some ((-1), z1.2) else F_R_readSum_6 gF z1.2 := rfl
  rcases jP h with ⟨j2, a2, b2, c2, r2, u0, u1, u2, u3, u4, u5, u6⟩ | ⟨a2, b2, u1, u2, u3⟩
  · rw [rs_2 h.1 u1, if_neg (by decide), if_pos rfl] at ec
    rw [u2] at er
    simp only [Option.bind_some] at er
    rw [if_neg (by decide)] at er
    rcases jT 500 j2 N gF a2 b2 c2 r2 (by omega) hN5 (by omega) u3 (eqP_m u4 (by decide)) with ⟨j', a', b', c', r', y0, y1, y2, y3, y4, y5, y6⟩ | ⟨a', b', y1, y2, y3⟩
    · exact Or.inl ⟨j', a', b', c', r', by omega, ec.trans y1, er.trans y2, y3, y4, frP_t u5 y5, frS_t u6 y6⟩
    · exact Or.inr ⟨a', b', ec.trans y1, er.trans y2, flY_t (frA_P u5) (frB_Q u6.1) y3⟩
  · rw [rs_2 h.1 u1, if_pos rfl] at ec
    rw [u2] at er
    simp only [Option.bind_some, if_true] at er
    exact Or.inr ⟨a2, b2, ec, er, u3⟩
