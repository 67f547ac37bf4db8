/-! ===== text: a line of the law ===== -/
noncomputable def bdC (K : Mem → Option (Int32 × Mem)) (w : Int32) (s : Mem) : Option (Int32 × Mem) := (F_L_beginLine w s).bind fun z7 => (F_P_readSum z7.2).bind fun z8 => if z8.1 = 0 then some (0, z8.2) else (F_L_beginWhen z8.2).bind fun z9 => (F_P_kind z9.2).bind fun z10 => if z10.1 = 3 then (rcF 24 1 0 (mw z10.2 76 4 ((z10.2 76 4) + 1))).bind fun z12 => if z12.1 = 0 then some (0, z12.2) else enC K z12.2 else enC K z10.2
noncomputable def bdR (K : Mem → Option (Int32 × Mem)) (x1 : Int32) (s : Mem) : Option (Int32 × Mem) := (sd s 133 (32 + x1) (s 123 15)).bind fun s4 => (F_R_reads s4).bind fun z5 => (sd z5.2 134 (32 + x1) (z5.2 123 25)).bind fun s6 => (F_R_readSum s6).bind fun z7 => if z7.1 = (-1) then some ((-1), z7.2) else (sd z7.2 135 (32 + x1) (z7.2 123 25)).bind fun s8 => (F_R_isWord 3 s8).bind fun z9 => if z9.1 = 0 then enR K x1 z9.2 else (F_R_reads z9.2).bind fun z14 => (F_R_readAny z14.2).bind fun z15 => if z15.1 = (-1) then some ((-1), z15.2) else enR K x1 z15.2
theorem jW {a b : Mem} {t : Nat → Nat} {n j m : Nat} {L : List (Nat × Nat × Nat × Nat)} {C : List Int32} {R : List (Int32 × Int32)} (h : ST a b t n L j C R 0 0) (hk : (tkN L j).1 ≤ 2) (h6 : a 80 6 = nI m) (hm : m < 16) (h26 : b 123 26 = 0) : (∃ j' a' b' c r, j < j' ∧ (∀ K, bdC K (nI (tkN L j).1) (avM a j) = K a') ∧ (∀ K, bdR K (nI m) b = K b') ∧ ST a' b' t n L j' (C ++ c) (R ++ r) 0 0 ∧ a' 80 6 = nI (m + 1) ∧ (b' 123 26 = 0 ∧ b' 123 24 = b 123 24) ∧ frA a a' ∧ frB b b' ∧ (∀ l, l < m → LWl C R a b l → LWl (C ++ c) (R ++ r) a' b' l) ∧ LWl (C ++ c) (R ++ r) a' b' m) ∨ ∃ a' b', (∀ K, bdC K (nI (tkN L j).1) (avM a j) = some (0, a')) ∧ (∀ K, bdR K (nI m) b = some (-1, b')) ∧ flY a b a' b' := by
  have e32 : (32 : Int32) + nI m = nI (32 + m) := nI_add 32 m
  have v15 : b 123 15 = nI (tkN L j).1 := (h.2.1.2.2.1.2.2.2.2.2.1 (by omega)).2
  have z1 : ¬ (0 : Int32) = -1 := by decide
  obtain ⟨b1, s1, fB1, P1, w1, o1, q1⟩ := wrB (s := b) (c := 133) (m := m) (v := nI (tkN L j).1) (by omega) hm
  have S1 := ST_wb h (c := 133) (by omega) P1 q1
  obtain ⟨b2, r2, fs2, ft2, S2, av, j4⟩ := ST_n S1 (by omega)
  have h6a : avM a j 80 6 = nI m := (congrFun (av_o (by decide)) 6).trans h6
  obtain ⟨a1, s1a, fA1, w1a, o1a, q1a⟩ := wrA (s := avM a j) (c := 82) (k := m) (v := nI (tkN L j).1) (by omega) hm
  have S2a := ST_wa S2 (c := 82) (by omega) q1a
  obtain ⟨a2, s2a, fA2, w2a, o2a, q2a⟩ := wrA (s := a1) (c := 83) (k := m) (v := nI C.length) (by omega) hm
  have S2b := ST_wa S2a (c := 83) (by omega) q2a
  obtain ⟨b3, s3, fB3, P3, w3, o3, q3⟩ := wrB (s := b2) (c := 134) (m := m) (v := nI R.length) (by omega) hm
  have S3 := ST_wb S2b (c := 134) (by omega) P3 q3
  have f1 := LfE h6a (by omega)
  rw [if_neg (by omega)] at f1
  have h6b : a1 80 6 = nI m := by rw [q1a 80 (by decide)]; exact h6a
  have h6c : a2 80 6 = nI m := by rw [q2a 80 (by decide)]; exact h6b
  have u1 : a1 80 1 = nI C.length := S2a.2.2.1.1
  have u2 : b2 123 25 = nI R.length := S2.2.2.2.1.1
  have eB : F_L_beginLine (nI (tkN L j).1) (avM a j) = some (0, a2) := by
    rw [F_L_beginLine, f1]
    simp only [Option.bind_some, if_true, h6a, s1a, h6b, u1, s2a]
  have fA0 : frA a (avM a j) := frA_mw rfl (by decide)
  have fA2' : frA a a2 := frA_t fA0 (frA_t fA1 fA2)
  have fB3' : frB b b3 := frB_t fB1 (frB_t (frB_Q fs2.1) fB3)
  rcases jM S3 with ⟨j3, a3, b4, c1, r1, g0, g1, g2, g3, g4, g5, g6⟩ | ⟨a3, b4, g1, g2, g3⟩
  · obtain ⟨a4, s4a, fA4, w4a, o4a, q4a⟩ := wrA (s := a3) (c := 84) (k := m) (v := nI (C ++ c1).length) (by omega) hm
    have S4 := ST_wa g3 (c := 84) (by omega) q4a
    obtain ⟨b5, s5, fB5, P5, w5, o5, q5⟩ := wrB (s := b4) (c := 135) (m := m) (v := nI (R ++ r1).length) (by omega) hm
    have S5 := ST_wb S4 (c := 135) (by omega) P5 q5
    have h6d : a3 80 6 = nI m := (g5.2 6 (by decide)).trans h6c
    have h6e : a4 80 6 = nI m := by rw [q4a 80 (by decide)]; exact h6d
    have f3 := LfE h6d (by omega)
    rw [if_neg (by omega)] at f3
    have u3 : a3 80 1 = nI (C ++ c1).length := g3.2.2.1.1
    have u4 : b4 123 25 = nI (R ++ r1).length := g3.2.2.2.1.1
    have eW : F_L_beginWhen a3 = some (0, a4) := by
      rw [F_L_beginWhen, f3]
      simp only [Option.bind_some, if_true, h6d, u3, s4a]
    have fA4' : frA a a4 := frA_t fA2' (frA_t (frA_P g5) fA4)
    have fB5' : frB b b5 := frB_t fB3' (frB_t (frB_Q g6.1) fB5)
    have h26b : b5 123 26 = 0 := by
      rw [q5 123 (by decide), g6.2.2.1, q3 123 (by decide), fs2.2.2.1, q1 123 (by decide)]
      exact h26
    have h24b : b5 123 24 = b 123 24 := by
      rw [q5 123 (by decide), g6.1.2.1 24 (by decide), q3 123 (by decide), fs2.1.2.1 24 (by decide), q1 123 (by decide)]
    have k66 := tk_ne S5.2.1
    have kd1 := kindE S5.1
    have i3 : F_R_isWord 3 b5 = some (if (tkN L j3).1 = 3 then 1 else 0, b5) := isWE (w := 3) S5.2.1 (by decide)
    have n3 : nI (tkN L j3).1 = 3 ↔ (tkN L j3).1 = 3 := nI_eq (b := 3) (by omega) (by decide)
    have fin : ∀ (j5 : Nat) (ax bx : Mem) (c2 : List Int32) (r2 : List (Int32 × Int32)), j < j5 → ST ax bx t n L j5 (C ++ c1 ++ c2) (R ++ r1 ++ r2) 0 0 → ax 80 6 = nI m → (bx 123 26 = 0 ∧ bx 123 24 = b 123 24) → (∀ d, d ≠ 76 → d ≠ 80 → d ≠ 81 → ax d = a4 d) → (∀ d, d ≠ 123 → d ≠ 137 → d ≠ 138 → d ≠ 139 → bx d = b5 d) → frA a ax → frB b bx → ((c2 = [] ∧ r2 = []) ∨ eqP bitV 22 c2 r2) → (∀ K, bdC K (nI (tkN L j).1) (avM a j) = enC K ax) → (∀ K, bdR K (nI m) b = enR K (nI m) bx) → (∃ j' a' b' c r, j < j' ∧ (∀ K, bdC K (nI (tkN L j).1) (avM a j) = K a') ∧ (∀ K, bdR K (nI m) b = K b') ∧ ST a' b' t n L j' (C ++ c) (R ++ r) 0 0 ∧ a' 80 6 = nI (m + 1) ∧ (b' 123 26 = 0 ∧ b' 123 24 = b 123 24) ∧ frA a a' ∧ frB b b' ∧ (∀ l, l < m → LWl C R a b l → LWl (C ++ c) (R ++ r) a' b' l) ∧ LWl (C ++ c) (R ++ r) a' b' m) ∨ ∃ a' b', (∀ K, bdC K (nI (tkN L j).1) (avM a j) = some (0, a')) ∧ (∀ K, bdR K (nI m) b = some (-1, b')) ∧ flY a b a' b' := by
      intro j5 ax bx c2 r2 hj hS hx6 hx26 hxa hxb hfa hfb hc hCC hRR
      rcases jE hS hx6 hm with ⟨a', b', y1, y2, y3, y4, y5, y6, y7, y8, y9, y10, y11, y12, y13, y14, y15, y16, y17⟩ | ⟨a', b', y1, y2, y3⟩
      · have A82 : ∀ i, i ≠ m → a' 82 i = a 82 i := fun i hi => by
          rw [y10, hxa 82 (by decide) (by decide) (by decide), q4a 82 (by decide), g5.1 82 (by decide) (by decide) (by decide), q2a 82 (by decide), o1a i hi]
          exact congrFun (av_o (by decide)) i
        have A82m : a' 82 m = nI (tkN L j).1 := by
          rw [y10, hxa 82 (by decide) (by decide) (by decide), q4a 82 (by decide), g5.1 82 (by decide) (by decide) (by decide), q2a 82 (by decide), w1a]
        have A83 : ∀ i, i ≠ m → a' 83 i = a 83 i := fun i hi => by
          rw [y11, hxa 83 (by decide) (by decide) (by decide), q4a 83 (by decide), g5.1 83 (by decide) (by decide) (by decide), o2a i hi, q1a 83 (by decide)]
          exact congrFun (av_o (by decide)) i
        have A83m : a' 83 m = nI C.length := by
          rw [y11, hxa 83 (by decide) (by decide) (by decide), q4a 83 (by decide), g5.1 83 (by decide) (by decide) (by decide), w2a]
        have A84 : ∀ i, i ≠ m → a' 84 i = a 84 i := fun i hi => by
          rw [y12, hxa 84 (by decide) (by decide) (by decide), o4a i hi, g5.1 84 (by decide) (by decide) (by decide), q2a 84 (by decide), q1a 84 (by decide)]
          exact congrFun (av_o (by decide)) i
        have A84m : a' 84 m = nI (C ++ c1).length := by
          rw [y12, hxa 84 (by decide) (by decide) (by decide), w4a]
        have A85 : ∀ i, i ≠ m → a' 85 i = a 85 i := fun i hi => by
          rw [y8 i hi, hxa 85 (by decide) (by decide) (by decide), q4a 85 (by decide), g5.1 85 (by decide) (by decide) (by decide), q2a 85 (by decide), q1a 85 (by decide)]
          exact congrFun (av_o (by decide)) i
        have B133 : ∀ i, i ≠ 32 + m → b' 133 i = b 133 i := fun i hi => by
          rw [y13, hxb 133 (by decide) (by decide) (by decide) (by decide), q5 133 (by decide), g6.1.1 133 (by decide) (by decide) (by decide) (by decide), q3 133 (by decide), fs2.1.1 133 (by decide) (by decide) (by decide) (by decide), o1 i hi]
        have B133m : b' 133 (32 + m) = nI (tkN L j).1 := by
          rw [y13, hxb 133 (by decide) (by decide) (by decide) (by decide), q5 133 (by decide), g6.1.1 133 (by decide) (by decide) (by decide) (by decide), q3 133 (by decide), fs2.1.1 133 (by decide) (by decide) (by decide) (by decide), w1]
        have B134 : ∀ i, i ≠ 32 + m → b' 134 i = b 134 i := fun i hi => by
          rw [y14, hxb 134 (by decide) (by decide) (by decide) (by decide), q5 134 (by decide), g6.1.1 134 (by decide) (by decide) (by decide) (by decide), o3 i hi, fs2.1.1 134 (by decide) (by decide) (by decide) (by decide), q1 134 (by decide)]
        have B134m : b' 134 (32 + m) = nI R.length := by
          rw [y14, hxb 134 (by decide) (by decide) (by decide) (by decide), q5 134 (by decide), g6.1.1 134 (by decide) (by decide) (by decide) (by decide), w3]
        have B135 : ∀ i, i ≠ 32 + m → b' 135 i = b 135 i := fun i hi => by
          rw [y15, hxb 135 (by decide) (by decide) (by decide) (by decide), o5 i hi, g6.1.1 135 (by decide) (by decide) (by decide) (by decide), q3 135 (by decide), fs2.1.1 135 (by decide) (by decide) (by decide) (by decide), q1 135 (by decide)]
        have B135m : b' 135 (32 + m) = nI (R ++ r1).length := by
          rw [y15, hxb 135 (by decide) (by decide) (by decide) (by decide), w5]
        have B136 : ∀ i, i ≠ 32 + m → b' 136 i = b 136 i := fun i hi => by
          rw [y9 i hi, hxb 136 (by decide) (by decide) (by decide) (by decide), q5 136 (by decide), g6.1.1 136 (by decide) (by decide) (by decide) (by decide), q3 136 (by decide), fs2.1.1 136 (by decide) (by decide) (by decide) (by decide), q1 136 (by decide)]
        have eCa : C ++ (c1 ++ c2) = C ++ c1 ++ c2 := (List.append_assoc _ _ _).symm
        have eRa : R ++ (r1 ++ r2) = R ++ r1 ++ r2 := (List.append_assoc _ _ _).symm
        refine Or.inl ⟨j5 + 1, a', b', c1 ++ c2, r1 ++ r2, by omega, fun K => (hCC K).trans (y1 K), fun K => (hRR K).trans (y2 K), by rw [eCa, eRa]; exact y3, y4, ⟨y5.1.trans hx26.1, y5.2.trans hx26.2⟩, frA_t hfa y16, frB_t hfb y17, fun l hl hw => LWl_a hw (A82 l (by omega)) (A83 l (by omega)) (A84 l (by omega)) (A85 l (by omega)) (B133 _ (by omega)) (B134 _ (by omega)) (B135 _ (by omega)) (B136 _ (by omega)), ?_⟩
        rw [eCa, eRa]
        refine ⟨B133m.trans A82m.symm, ?_, C.length, (C ++ c1).length, (C ++ c1 ++ c2).length, R.length, (R ++ r1).length, (R ++ r1 ++ r2).length, A83m, A84m, y6, ?_, ?_, Nat.le_refl _, B134m, B135m, y7, ?_, ?_, Nat.le_refl _, PC_a (PC_n g4 (by decide)) c2 r2, ?_, ?_⟩
        · rw [A82m]
          have hk3 : (tkN L j).1 = 0 ∨ (tkN L j).1 = 1 ∨ (tkN L j).1 = 2 := by omega
          rcases hk3 with q | q | q
          · rw [q]; exact Or.inl rfl
          · rw [q]; exact Or.inr (Or.inl rfl)
          · rw [q]; exact Or.inr (Or.inr rfl)
        · rw [List.length_append]; omega
        · rw [List.length_append (as := C ++ c1)]; omega
        · rw [List.length_append]; omega
        · rw [List.length_append (as := R ++ r1)]; omega
        · rcases hc with ⟨rfl, rfl⟩ | hc
          · rw [List.append_nil, List.append_nil]
            exact ⟨fun _ => rfl, fun _ => rfl⟩
          · have := eqP_0 hc (by decide)
            rw [List.length_append (as := C ++ c1), List.length_append (as := R ++ r1)]
            omega
        · intro hh
          rcases hc with ⟨rfl, rfl⟩ | hc
          · rw [List.append_nil] at hh
            exact absurd hh (Nat.lt_irrefl _)
          · exact PC_n hc (by decide)
      · exact Or.inr ⟨a', b', fun K => (hCC K).trans (y1 K), fun K => (hRR K).trans (y2 K), flY_t hfa hfb y3⟩
    by_cases c3 : (tkN L j3).1 = 3
    · rw [if_pos c3] at i3
      obtain ⟨b6, r6, fs6, ft6, S6, av6, -⟩ := ST_n S5 (by omega)
      have S6' : ST (avM a4 j3) b6 t n L (j3 + 1) (C ++ c1) (R ++ r1) 0 0 := ⟨S6.1, S6.2.1, S6.2.2.1, S6.2.2.2.1, by have := S6.2.2.2.2.1; omega, by have := S6.2.2.2.2.2; omega⟩
      have hC1 : ∀ K, bdC K (nI (tkN L j).1) (avM a j) = (rcF 24 1 0 (avM a4 j3)).bind fun z12 => if z12.1 = 0 then some (0, z12.2) else enC K z12.2 := fun K => by
        simp only [bdC, eB, Option.bind_some, g1, one0, if_false, eW, kd1, if_pos (n3.mpr c3), av6]
      have hR1 : ∀ K, bdR K (nI m) b = (F_R_readAny b6).bind fun z15 => if z15.1 = (-1) then some ((-1), z15.2) else enR K (nI m) z15.2 := fun K => by
        simp only [bdR, e32, v15, s1, Option.bind_some, r2, u2, s3, g2, if_neg z1, u4, s5, i3, one0, if_false, r6]
      have fA6 : frA a (avM a4 j3) := frA_t fA4' (frA_mw rfl (by decide))
      have fB6 : frB b b6 := frB_t fB5' (frB_Q fs6.1)
      rcases jAny S6' (fs6.2.2.1.trans h26b) with ⟨j5, ax, bx, c2, r2', y0, y1, y2, y3, y4, y5, y6, y7⟩ | ⟨ax, bx, y1, y2, y3⟩
      · refine fin j5 ax bx c2 r2' (by omega) y3 ?_ ⟨y4, (y7.2.1 24 (by decide)).trans ((fs6.1.2.1 24 (by decide)).trans h24b)⟩ (fun d d1 d2 d3 => ?_) (fun d d1 d2 d3 d4 => ?_) (frA_t fA6 (frA_P y6)) (frB_t fB6 (frB_Q y7)) (Or.inr y5) (fun K => ?_) (fun K => ?_)
        · rw [y6.2 6 (by decide), av_o (by decide)]
          exact h6e
        · rw [y6.1 d d1 d2 d3]
          exact av_o d1
        · rw [y7.1 d d1 d2 d3 d4, fs6.1.1 d d1 d2 d3 d4]
        · rw [hC1, y1]
          simp only [Option.bind_some, one0, if_false]
        · rw [hR1, y2]
          simp only [Option.bind_some, if_neg z1]
      · refine Or.inr ⟨ax, bx, fun K => ?_, fun K => ?_, flY_t fA6 fB6 y3⟩
        · rw [hC1, y1]
          simp only [Option.bind_some, if_true]
        · rw [hR1, y2]
          simp only [Option.bind_some, if_true]
    · rw [if_neg c3] at i3
      have S5' : ST a4 b5 t n L j3 (C ++ c1 ++ []) (R ++ r1 ++ []) 0 0 := by
        rw [List.append_nil, List.append_nil]
        exact ⟨S5.1, S5.2.1, S5.2.2.1, S5.2.2.2.1, by have := S5.2.2.2.2.1; omega, by have := S5.2.2.2.2.2; omega⟩
      refine fin j3 a4 b5 [] [] (by omega) S5' h6e ⟨h26b, h24b⟩ (fun _ _ _ _ => rfl) (fun _ _ _ _ _ => rfl) fA4' fB5' (Or.inl ⟨rfl, rfl⟩) (fun K => ?_) (fun K => ?_)
      · simp only [bdC, eB, Option.bind_some, g1, one0, if_false, eW, kd1, if_neg (fun q => c3 (n3.mp q))]
      · simp only [bdR, e32, v15, s1, Option.bind_some, r2, u2, s3, g2, if_neg z1, u4, s5, i3, if_true]
  · refine Or.inr ⟨a3, b4, fun K => ?_, fun K => ?_, flY_t fA2' fB3' g3⟩
    · simp only [bdC, eB, Option.bind_some, g1, if_true]
    · simp only [bdR, e32, v15, s1, Option.bind_some, r2, u2, s3, g2, if_true]
/-! all lines -/
theorem lawC {a : Mem} {L : List (Nat × Nat × Nat × Nat)} {j m f : Nat} (hA : ATt a L j) (h66 : (tkN L j).1 ≤ 66) (h6 : a 80 6 = nI m) (hm : m ≤ 16) : F_P_readLaw_5 (f + 1) (nI m) a = if (tkN L j).1 = 66 then some (1, a) else if (tkN L j).1 ≤ 2 then (if m = 16 then some (0, flM a L j 3) else bdC (F_P_readLaw_5 f (nI (m + 1))) (nI (tkN L j).1) (avM a j)) else some (0, flM a L j 1) := by
  have kd1 := kindE hA
  have n66 : nI (tkN L j).1 = 66 ↔ (tkN L j).1 = 66 := nI_eq (b := 66) (by omega) (by decide)
  have wi : ((0 : Int32) ≤ nI (tkN L j).1 ∧ nI (tkN L j).1 ≤ 2) ↔ (tkN L j).1 ≤ 2 := ⟨fun q => (nI_leI (b := 2) (by omega) (by decide)).mp q.2, fun q => ⟨nI_pos' (by omega), nI_le (b := 2) q (by decide)⟩⟩
  have av : mw a 76 4 (a 76 4 + 1) = avM a j := by
    rw [hA.2.2.1, nI_1]
    rfl
  rw [F_P_readLaw_5, if_neg (m16 hm), kd1]
  simp only [Option.bind_some, kd1, C_within, LfE h6 hm, av, nI_1]
  by_cases c66 : (tkN L j).1 = 66
  · rw [if_pos (n66.mpr c66), if_pos c66]
  · rw [if_neg (fun q => c66 (n66.mp q)), if_neg c66]
    by_cases c2 : (tkN L j).1 ≤ 2
    · rw [if_pos (wi.mpr c2), if_neg (show ¬ (1 : Int32) = 0 by decide), if_pos c2]
      by_cases c16 : m = 16
      · rw [if_pos c16, if_pos c16, if_neg (show ¬ (1 : Int32) = 0 by decide)]
        simp only [failE hA, Option.bind_some, b0a, if_true]
      · rw [if_neg c16, if_neg c16, if_pos (show (0 : Int32) = 0 from rfl)]
        rfl
    · rw [if_neg (fun q => c2 (wi.mp q)), if_pos (show (0 : Int32) = 0 from rfl), if_neg c2]
      simp only [failE hA, Option.bind_some, b0a, if_true]
theorem lawR {b : Mem} {t : Nat → Nat} {L : List (Nat × Nat × Nat × Nat)} {n j m f : Nat} (hP : PSt b t n L j) (hm : m ≤ 16) : F_R_readLaw_2 (f + 1) (nI m) b = if (tkN L j).1 ≤ 2 then (if m = 16 then some (-1, erM b L j 3) else bdR (F_R_readLaw_2 f (nI (m + 1))) (nI m) b) else if (tkN L j).1 = 66 then some (nI m, b) else some (-1, erM b L j 1) := by
  have k66 := tk_ne hP
  have hn := isNE hP
  have wi : ((0 : Int32) ≤ nI (tkN L j).1 ∧ nI (tkN L j).1 ≤ 2) ↔ (tkN L j).1 ≤ 2 := ⟨fun q => (nI_leI (b := 2) (by omega) (by decide)).mp q.2, fun q => ⟨nI_pos' (by omega), nI_le (b := 2) q (by decide)⟩⟩
  have il : F_R_isLineWord b = some (if (tkN L j).1 ≤ 2 then 1 else 0, b) := by
    by_cases c : b 123 14 = 2
    · have t2 := (hP.2.2.1.2.2.2.2.2.1 (hn.2.2.mp c)).2
      rw [F_R_isLineWord, if_pos c, t2, R_isIn]
      by_cases c2 : (tkN L j).1 ≤ 2
      · rw [if_pos (wi.mpr c2), if_pos c2]
        simp only [Option.bind_some, one0, if_false]
      · rw [if_neg (fun q => c2 (wi.mp q)), if_neg c2]
        simp only [Option.bind_some, if_true]
    · have c2 : ¬ (tkN L j).1 ≤ 2 := fun q => c (hn.2.2.mpr (by omega))
      rw [F_R_isLineWord, if_neg c, if_neg c2]
  have n16 : nI m = 16 ↔ m = 16 := nI_eq (b := 16) (by omega) (by decide)
  rw [F_R_readLaw_2, il]
  simp only [Option.bind_some, nI_1]
  by_cases c2 : (tkN L j).1 ≤ 2
  · rw [if_pos c2, if_neg (show ¬ (1 : Int32) = 0 by decide), if_pos c2]
    by_cases c16 : m = 16
    · rw [if_pos c16, if_pos (n16.mpr c16), errE hP 3]
      rfl
    · rw [if_neg c16, if_neg (fun q => c16 (n16.mp q))]
      rfl
  · rw [if_neg c2, if_pos (show (0 : Int32) = 0 from rfl), if_neg c2]
    by_cases c66 : (tkN L j).1 = 66
    · rw [if_pos (hn.2.1.mpr c66), if_pos c66]
    · rw [if_neg (fun q => c66 (hn.2.1.mp q)), if_neg c66, errE hP 1]
      rfl
theorem lawL {t : Nat → Nat} {n : Nat} {L : List (Nat × Nat × Nat × Nat)} : ∀ (q j m fu fu' : Nat) (a b : Mem) (C : List Int32) (R : List (Int32 × Int32)), L.length ≤ j + q → q < fu → q < fu' → ST a b t n L j C R 0 0 → a 80 6 = nI m → m ≤ 16 → b 123 26 = 0 → (∀ l, l < m → LWl C R a b l) → (∃ m' j' a' b' C' R', m' ≤ 16 ∧ F_P_readLaw_5 fu (nI m) a = some (1, a') ∧ F_R_readLaw_2 fu' (nI m) b = some (nI m', b') ∧ ST a' b' t n L j' C' R' 0 0 ∧ a' 80 6 = nI m' ∧ (∀ l, l < m' → LWl C' R' a' b' l) ∧ frA a a' ∧ frB b b' ∧ b' 123 24 = b 123 24) ∨ ∃ a' b', F_P_readLaw_5 fu (nI m) a = some (0, a') ∧ F_R_readLaw_2 fu' (nI m) b = some (-1, b') ∧ flY a b a' b'
  | 0, j, m, fu, fu', a, b, C, R, hq, _, _, h, _, _, _, _ => by
    have := h.1.1
    omega
  | q + 1, j, m, fu, fu', a, b, C, R, hq, h1, h2, h, h6, hm, h26, hl => by
    obtain ⟨f, rfl⟩ : ∃ f, fu = f + 1 := ⟨fu - 1, by omega⟩
    obtain ⟨f', rfl⟩ : ∃ f', fu' = f' + 1 := ⟨fu' - 1, by omega⟩
    have k66 := tk_ne h.2.1
    have ec := lawC (f := f) h.1 k66 h6 hm
    have er := lawR (f := f') h.2.1 hm
    by_cases c66 : (tkN L j).1 = 66
    · rw [if_pos c66] at ec
      rw [if_neg (show ¬ (tkN L j).1 ≤ 2 by omega), if_pos c66] at er
      exact Or.inl ⟨m, j, a, b, C, R, hm, ec, er, h, h6, hl, frA_0 a, frB_0 b, rfl⟩
    · rw [if_neg c66] at ec
      by_cases c2 : (tkN L j).1 ≤ 2
      · rw [if_pos c2] at ec er
        by_cases c16 : m = 16
        · rw [if_pos c16] at ec er
          exact Or.inr ⟨_, _, ec, er, flY_1⟩
        · rw [if_neg c16] at ec er
          rcases jW h c2 h6 (by omega) h26 with ⟨j', a', b', c, r, y0, y1, y2, y3, y4, y5, y6, y7, y8, y9⟩ | ⟨a', b', y1, y2, y3⟩
          · rw [y1] at ec
            rw [y2] at er
            rcases lawL q j' (m + 1) f f' a' b' (C ++ c) (R ++ r) (by omega) (by omega) (by omega) y3 y4 (by omega) y5.1 (fun l hlm => by
              by_cases cl : l = m
              · rw [cl]; exact y9
              · exact y8 l (by omega) (hl l (by omega))) with ⟨m', j2, a2, b2, C', R', w1, w2, w3, w4, w5, w6, w7, w8⟩ | ⟨a2, b2, w1, w2, w3⟩
            · exact Or.inl ⟨m', j2, a2, b2, C', R', w1, ec.trans w2, er.trans w3, w4, w5, w6, frA_t y6 w7, frB_t y7 w8.1, w8.2.trans y5.2⟩
            · exact Or.inr ⟨a2, b2, ec.trans w1, er.trans w2, flY_t y6 y7 w3⟩
          · rw [y1] at ec
            rw [y2] at er
            exact Or.inr ⟨a', b', ec, er, y3⟩
      · rw [if_neg c2] at ec
        rw [if_neg c2, if_neg c66] at er
        exact Or.inr ⟨_, _, ec, er, flY_1⟩
