/-! ===== text: comparisons and conditions, whole ===== -/
theorem cmp_s {F o : Nat} (ho : o ≤ 8) (hI : o < 8 → CmpP F (o + 1) ∧ CndP F (o + 1)) : CmpP (F + 1) o := by
  intro a b t n L j C R sc k Q fu B h hN hQ hk hl h26 hB hfu
  obtain ⟨g, rfl⟩ : ∃ g, fu = g + 1 := ⟨fu - 1, by have := h.1.1; omega⟩
  have hA := h.1
  have hP := h.2.1
  have k66 := tk_ne hP
  have kd1 := kindE hA
  have ec0 : rcF (F + 1) 0 (nI o) a = F_P_readComparison (rcF F) (nI o) a := by rw [rcF, if_pos rfl]
  have i6 : F_R_isWord 6 b = some (if (tkN L j).1 = 6 then 1 else 0, b) := isWE (w := 6) hP (by decide)
  have i40 : F_R_isSign 40 b = some (if (tkN L j).1 = 40 then 1 else 0, b) := isSE (w := 40) hP (by decide)
  have n6 : nI (tkN L j).1 = 6 ↔ (tkN L j).1 = 6 := nI_eq (b := 6) (by omega) (by decide)
  have n40 : nI (tkN L j).1 = 40 ↔ (tkN L j).1 = 40 := nI_eq (b := 40) (by omega) (by decide)
  have lr : (List.replicate k (9 : Int32) ++ Q).length = k + Q.length := by rw [List.length_append, List.length_replicate]
  have x1 : ¬ (1 : Int32) = 0 := by decide
  have hV : ST a (mw b 123 26 (nI (o + 1))) t n L j C R sc (k + Q.length) := ⟨h.1, PSt_V h.2.1 (frV_123 (by omega)), h.2.2.1, HR_k h.2.2.2.1 (by decide), h.2.2.2.2⟩
  have hNV : PN (mw b 123 26 (nI (o + 1))) (List.replicate k 9 ++ Q) := ⟨(mw_k (by decide)).trans hN.1, pL_c _ (fun i _ => by rw [mw_o (by decide)]) hN.2⟩
  have eb0 : mw b 123 26 (b 123 26 + 1) = mw b 123 26 (nI (o + 1)) := by rw [h26, nI_1]
  have fV : frQ b (mw b 123 26 (nI (o + 1))) := frQ_123 (by omega)
  have eV : mw b 123 26 (nI (o + 1)) 123 26 = nI (o + 1) := mwSelf _ _ _ _
  by_cases c6 : (tkN L j).1 = 6
  · by_cases o8 : o = 8
    · have e26 : b 123 26 = 8 := by rw [h26, o8]; rfl
      have lt : ¬ nI o < 8 := by rw [o8]; decide
      refine Or.inr ⟨flM a L j 3, erM b L j 3, ?_, ?_, flY_1⟩
      · rw [ec0, F_P_readComparison, kd1]
        simp only [Option.bind_some, if_pos (n6.mpr c6), if_neg lt, failE hA, b0a, if_true]
      · rw [F_R_readAny_7, if_neg x1, i6, if_pos c6]
        simp only [Option.bind_some, one0, if_false, if_pos e26, errE hP 3]
    · obtain ⟨I1, -⟩ := hI (by omega)
      have e26 : ¬ b 123 26 = 8 := by
        rw [h26]
        exact fun q => o8 ((nI_eq (b := 8) (by omega) (by decide)).mp q)
      have lt : nI o < 8 := nI_lt (b := 8) (by omega) (by decide)
      obtain ⟨b1, b2, w1, w2, w3, w4, w5, w6, w7⟩ := push hV (by omega) hNV (by omega) 9
      have er : F_R_readAny_7 (g + 1) (nI B) 1 b = F_R_readAny_7 g (nI B) 1 b2 := by
        rw [F_R_readAny_7, if_neg x1, i6, if_pos c6]
        simp only [Option.bind_some, one0, if_false, if_neg e26, eb0, w1, w2]
      have ne40 : ¬ nI (tkN L j).1 = 40 := fun q => by
        have := n40.mp q
        omega
      have ec : rcF (F + 1) 0 (nI o) a = (rcF F 0 (nI (o + 1)) (avM a j)).bind fun z5 => if z5.1 = 0 then some (0, z5.2) else (F_L_put 9 0 z5.2).bind fun z6 => some (1, z6.2) := by
        rw [ec0, F_P_readComparison, kd1]
        simp only [Option.bind_some, if_pos (n6.mpr c6), if_pos lt, w7, if_neg ne40, nI_1]
      have w3 : ST (avM a j) b2 t n L (j + 1) C R (sc + 1) (k + 1 + Q.length) := by
        rw [show k + 1 + Q.length = k + Q.length + 1 by omega]
        exact w3
      rcases I1 (avM a j) b2 t n L (j + 1) C R (sc + 1) (k + 1) Q g B w3 w4 hQ (by omega) (by omega) (w5.trans eV) (by omega) (by omega) with ⟨j', a', b', c, r, fu', y0, y1, y2, y3, y4, y5, y6, y7, y8, y9⟩ | ⟨a', b', y1, y2, y3⟩
      · obtain ⟨a3, p1, p2, p3⟩ := ST_pc y4 9 0
        have p1 : F_L_put 9 0 a' = some (0, a3) := p1
        rw [y1] at ec
        simp only [Option.bind_some, one0, if_false, p1] at ec
        refine Or.inl ⟨j', a3, b', c ++ [wdA 9 0], r ++ [(9, 0)], fu', by omega, ec, er.trans y2, y3, ?_, y5, ?_, eqP_m (e_not y7) (by omega), frP_t (frP_t frP_76 y8) p3, frQ_t fV (frQ_t w6 y9)⟩
        · have e1 : C ++ (c ++ [wdA 9 0]) = C ++ c ++ [wdA 9 0] := (List.append_assoc _ _ _).symm
          have e2 : r ++ [((9 : Int32), (0 : Int32))] ++ List.replicate k (9, 0) = r ++ List.replicate (k + 1) (9, 0) := List.append_assoc _ _ _
          rw [e1, e2]
          exact p2
        · rw [y6, show o + 1 - (k + 1) = o - k by omega]
      · rw [y1] at ec
        simp only [Option.bind_some, if_true] at ec
        exact Or.inr ⟨a', b', ec, er.trans y2, flY_t (frA_P frP_76) (frB_Q (frQ_t fV w6)) y3⟩
  · have ne6 : ¬ nI (tkN L j).1 = 6 := fun q => c6 (n6.mp q)
    by_cases c40 : (tkN L j).1 = 40
    · by_cases o8 : o = 8
      · have e26 : b 123 26 = 8 := by rw [h26, o8]; rfl
        have lt : ¬ nI o < 8 := by rw [o8]; decide
        refine Or.inr ⟨flM a L j 3, erM b L j 3, ?_, ?_, flY_1⟩
        · rw [ec0, F_P_readComparison, kd1]
          simp only [Option.bind_some, if_neg ne6, if_pos (n40.mpr c40), if_neg lt, failE hA, b0a, if_true]
        · rw [F_R_readAny_7, if_neg x1, i6, if_neg c6]
          simp only [Option.bind_some, if_true, i40, if_pos c40, one0, if_false, if_pos e26, errE hP 3]
      · obtain ⟨-, I2⟩ := hI (by omega)
        have e26 : ¬ b 123 26 = 8 := by
          rw [h26]
          exact fun q => o8 ((nI_eq (b := 8) (by omega) (by decide)).mp q)
        have lt : nI o < 8 := nI_lt (b := 8) (by omega) (by decide)
        obtain ⟨b1, b2, w1, w2, w3, w4, w5, w6, w7⟩ := push hV (by omega) hNV (by omega) 12
        have er : F_R_readAny_7 (g + 1) (nI B) 1 b = F_R_readAny_7 g (nI (B + 1)) 1 b2 := by
          rw [F_R_readAny_7, if_neg x1, i6, if_neg c6]
          simp only [Option.bind_some, if_true, i40, if_pos c40, one0, if_false, if_neg e26, eb0, w1, w2, nI_1]
        have ec : rcF (F + 1) 0 (nI o) a = (rcF F 1 (nI (o + 1)) (avM a j)).bind fun z9 => if z9.1 = 0 then some (0, z9.2) else (F_P_take 41 z9.2).bind fun z10 => if z10.1 = 0 then some (0, z10.2) else some (1, z10.2) := by
          rw [ec0, F_P_readComparison, kd1]
          simp only [Option.bind_some, if_neg ne6, if_pos (n40.mpr c40), if_pos lt, w7, nI_1]
        have w3 : ST (avM a j) b2 t n L (j + 1) C R sc ((12 : Int32) :: (List.replicate k 9 ++ Q)).length := by
          rw [List.length_cons, lr]
          exact ⟨w3.1, w3.2.1, w3.2.2.1, w3.2.2.2.1, by have := w3.2.2.2.2.1; omega, w3.2.2.2.2.2⟩
        rcases I2 (avM a j) b2 t n L (j + 1) C R sc (12 :: (List.replicate k 9 ++ Q)) g (B + 1) w3 w4 (Or.inr ⟨_, rfl⟩) (by rw [List.length_cons, lr]; omega) (w5.trans eV) (by omega) (by omega) with ⟨j', a', b', c, r, fu', y0, y1, y2, y3, y4, y5, y6, y7, y8, y9⟩ | ⟨a', b', y1, y2, y3⟩
        · rw [y1] at ec
          simp only [Option.bind_some, one0, if_false] at ec
          have er := er.trans y2
          rw [rAy, if_neg (nI_ne0 (by omega) (by omega))] at er
          have m66 := tk_ne y4.2.1
          have tk : F_P_take 41 a' = some (if nI (tkN L j').1 = nI 41 then (1, avM a' j') else (0, flM a' L j' 1)) := takeE y4.1 (nI 41)
          have i41 : F_R_isSign 41 b' = some (if (tkN L j').1 = 41 then 1 else 0, b') := isSE (w := 41) y4.2.1 (by decide)
          have fP' : frP a a' := frP_t frP_76 y8
          have fQ' : frQ b b' := frQ_t fV (frQ_t w6 y9)
          rw [List.length_cons, lr] at y4
          have y5 : PN b' (12 :: (List.replicate k 9 ++ Q)) := y5
          by_cases c41 : (tkN L j').1 = 41
          · rw [if_pos (by rw [c41])] at tk
            rw [if_pos c41] at i41
            have e28 : b' 123 28 - 1 = nI (k + Q.length) := by
              rw [y5.1, List.length_cons, lr]
              exact nI_pred _
            have f26 : mw b' 123 28 (nI (k + Q.length)) 123 26 - 1 = nI o := by
              rw [mw_k (by decide), y6]
              exact nI_pred o
            have fV8 : frV b' (mw (mw b' 123 28 (nI (k + Q.length))) 123 26 (nI o)) := frV_t (frV_123 (by omega)) (frV_123 (by omega))
            have HR8 : HR (mw (mw b' 123 28 (nI (k + Q.length))) 123 26 (nI o)) (R ++ r) := HR_k (HR_k y4.2.2.2.1 (by decide)) (by decide)
            have PN8 : PN (mw (mw b' 123 28 (nI (k + Q.length))) 123 26 (nI o)) (List.replicate k 9 ++ Q) := ⟨by rw [mw_k (by decide), mwSelf, lr], pL_c _ (fun i _ => by rw [mw_o (by decide), mw_o (by decide)]) y5.2.2⟩
            have e8 : mw (mw b' 123 28 (nI (k + Q.length))) 123 26 (nI o) 123 26 = nI (o - k + k) := by
              rw [mwSelf, show o - k + k = o by omega]
            have ylen := y4.2.2.2.2.2
            have yj := y4.1.1
            have yj2 := y4.1.2.1
            obtain ⟨b4, z1, z2, z3, z4, z5⟩ := stl9 k gF (o - k) _ (R ++ r) Q HR8 PN8 hQ e8 (by rw [gF_eq]; omega) (by omega) (by omega)
            have z1 : F_R_settles 9 (mw (mw b' 123 28 (nI (k + Q.length))) 123 26 (nI o)) = some (0, b4) := z1
            have S4 : ST a' b4 t n L j' (C ++ c) (R ++ (r ++ List.replicate k (9, 0))) sc (Q.length + 1) := by
              rw [← List.append_assoc]
              refine ⟨y4.1, PSt_V y4.2.1 (frV_t fV8 z5), y4.2.2.1, z2, y4.2.2.2.2.1, ?_⟩
              rw [List.length_append, List.length_replicate]
              omega
            obtain ⟨b5, q1, fs, ft, S5, av, -⟩ := ST_n S4 (by omega)
            rw [i41] at er
            simp only [Option.bind_some, one0, if_false, e28, f26, z1, q1] at er
            rw [nI_pred] at er
            rw [tk] at ec
            simp only [Option.bind_some, one0, if_false] at ec
            refine Or.inl ⟨j' + 1, avM a' j', b5, c, r, fu', by omega, ec, er, by omega, ⟨S5.1, S5.2.1, S5.2.2.1, S5.2.2.2.1, by have := S5.2.2.2.2.1; omega, by have := S5.2.2.2.2.2; omega⟩, PN_S z3 fs, fs.2.2.1.trans z4, eqP_m y7 (by omega), frP_t fP' frP_76, frQ_t fQ' (frQ_t (frV_t fV8 z5).1 fs.1)⟩
          · rw [if_neg (fun q => c41 ((nI_eq (by omega) (by decide)).mp q))] at tk
            rw [if_neg c41] at i41
            rw [tk] at ec
            rw [i41] at er
            simp only [Option.bind_some, if_true] at ec
            simp only [Option.bind_some, if_true, errE y4.2.1 1] at er
            exact Or.inr ⟨_, _, ec, er, flY_t (frA_P fP') (frB_Q fQ') flY_1⟩
        · rw [y1] at ec
          simp only [Option.bind_some, if_true] at ec
          exact Or.inr ⟨a', b', ec, er.trans y2, flY_t (frA_P frP_76) (frB_Q (frQ_t fV w6)) y3⟩
    · have ne40 : ¬ nI (tkN L j).1 = 40 := fun q => c40 (n40.mp q)
      have ec : rcF (F + 1) 0 (nI o) a = kC a := by
        rw [ec0, F_P_readComparison, kd1]
        simp only [Option.bind_some, if_neg ne6, if_neg ne40]
        rfl
      have er : F_R_readAny_7 (g + 1) (nI B) 1 b = (F_R_readCompared b).bind fun z20 => if z20.1 = (-1) then some ((-1), z20.2) else (F_R_settles 9 z20.2).bind fun z21 => F_R_readAny_7 g (nI B) 0 z21.2 := by
        rw [F_R_readAny_7, if_neg x1, i6, if_neg c6]
        simp only [Option.bind_some, if_true, i40, if_neg c40]
      rcases jK h with ⟨j', a', b', c, r, u0, u1, u2, u3, u4, u5, u6⟩ | ⟨a', b', u1, u2, u3⟩
      · rw [u2] at er
        simp only [Option.bind_some] at er
        rw [if_neg (show ¬ (0 : Int32) = -1 by decide)] at er
        have e8 : b' 123 26 = nI (o - k + k) := by
          rw [u6.2.2.1, h26, show o - k + k = o by omega]
        have ylen := u3.2.2.2.2.2
        have yj := u3.1.1
        have yj2 := u3.1.2.1
        obtain ⟨b4, z1, z2, z3, z4, z5⟩ := stl9 k gF (o - k) b' (R ++ r) Q u3.2.2.2.1 (PN_S hN u6) hQ e8 (by rw [gF_eq]; omega) (by omega) (by omega)
        have z1 : F_R_settles 9 b' = some (0, b4) := z1
        rw [z1] at er
        simp only [Option.bind_some] at er
        refine Or.inl ⟨j', a', b4, c, r, g, u0, ec.trans u1, er, by omega, ?_, z3, z4, eqP_m u4 (by omega), u5, frQ_t u6.1 z5.1⟩
        rw [← List.append_assoc]
        refine ⟨u3.1, PSt_V u3.2.1 z5, u3.2.2.1, z2, u3.2.2.2.2.1, ?_⟩
        rw [List.length_append, List.length_replicate]
        omega
      · rw [u2] at er
        simp only [Option.bind_some, if_true] at er
        exact Or.inr ⟨a', b', ec.trans u1, er, u3⟩
theorem cmp_all : ∀ d o F, o + d = 8 → 2 * d ≤ F → CmpP (F + 1) o
  | 0, o, F, ho, _ => cmp_s (by omega) (fun k => absurd k (by omega))
  | d + 1, o, F, ho, hF => by
    obtain ⟨G, rfl⟩ : ∃ G, F = G + 1 + 1 := ⟨F - 2, by omega⟩
    have c1 := cmp_all d (o + 1) G (by omega) (by omega)
    have c2 := cmp_all d (o + 1) (G + 1) (by omega) (by omega)
    exact cmp_s (by omega) (fun _ => ⟨c2, cnd_s c1 (by omega)⟩)
theorem cnd_0 : CndP 24 0 := cnd_s (cmp_all 8 0 22 rfl (by decide)) (by decide)
/-- all that stands behind when -/
theorem jAny {a b : Mem} {t : Nat → Nat} {n j sc : Nat} {L : List (Nat × Nat × Nat × Nat)} {C : List Int32} {R : List (Int32 × Int32)} (h : ST a b t n L j C R sc 0) (h26 : b 123 26 = 0) : (∃ j' a' b' c r, j < j' ∧ rcF 24 1 0 a = some (1, a') ∧ F_R_readAny b = some (0, b') ∧ ST a' b' t n L j' (C ++ c) (R ++ r) sc 0 ∧ b' 123 26 = 0 ∧ eqP bitV 22 c r ∧ frP a a' ∧ frQ b b') ∨ ∃ a' b', rcF 24 1 0 a = some (0, a') ∧ F_R_readAny b = some (-1, b') ∧ flY a b a' b' := by
  have hl := ST_len h
  have f0 : frQ b (mw b 123 28 0) := frQ_123 (by omega)
  have h0 : ST a (mw b 123 28 0) t n L j C R sc ([] : List Int32).length := ⟨h.1, PSt_V h.2.1 (frV_123 (by omega)), h.2.2.1, HR_k h.2.2.2.1 (by decide), h.2.2.2.2⟩
  rcases cnd_0 a (mw b 123 28 0) t n L j C R sc [] gF 0 h0 ⟨mwSelf _ _ _ _, trivial⟩ (Or.inl rfl) (by decide) ((mw_k (by decide)).trans h26) (by decide) (by rw [gF_eq]; omega) with ⟨j', a', b', c, r, fu', y0, y1, y2, y3, y4, y5, y6, y7, y8, y9⟩ | ⟨a', b', y1, y2, y3⟩
  · refine Or.inl ⟨j', a', b', c, r, y0, y1, ?_, y4, y6, y7, y8, frQ_t f0 y9⟩
    have y2 : F_R_readAny b = rAy fu' 0 b' := y2
    rw [y2, rAy, if_pos rfl]
  · exact Or.inr ⟨a', b', y1, y2, flY_t (frA_0 a) (frB_Q f0) y3⟩
