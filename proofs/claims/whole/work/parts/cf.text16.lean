/-! ===== text: conditions ===== -/
def bI (x : Bool) : Int32 := bif x then 1 else 0
def bS (x : Bool) (w : Int32) : List Int32 := bif x then [w] else []
def bC (x : Bool) (w : Nat) : List Int32 := bif x then [wdA w 0] else []
def bR (x : Bool) (w : Nat) : List (Int32 × Int32) := bif x then [(nI w, 0)] else []
def bN (x : Bool) : Nat := bif x then 1 else 0
def dP (x : Bool) (N : Nat) (D : List Int32) (RD : List (Int32 × Int32)) : Prop := (x = true ∧ eqP bitV N D RD) ∨ (x = false ∧ D = [] ∧ RD = [])
theorem dE_and {x : Bool} {N : Nat} {E c : List Int32} {RE r : List (Int32 × Int32)} (h : dP x (N + 1) E RE) (k : eqP bitV N c r) : eqP bitV (N + 1) (E ++ c ++ bC x 10) (RE ++ r ++ bR x 10) := by
  rcases h with ⟨rfl, h⟩ | ⟨rfl, rfl, rfl⟩
  · exact e_and h k (Nat.le_refl _) (Nat.le_refl _)
  · show eqP bitV (N + 1) (c ++ []) (r ++ [])
    rw [List.append_nil, List.append_nil]
    exact eqP_m k (by omega)
theorem dE_or {x : Bool} {N : Nat} {D E : List Int32} {RD RE : List (Int32 × Int32)} (h : dP x (N + 2) D RD) (k : eqP bitV (N + 1) E RE) : eqP bitV (N + 2) (D ++ E ++ bC x 11) (RD ++ RE ++ bR x 11) := by
  rcases h with ⟨rfl, h⟩ | ⟨rfl, rfl, rfl⟩
  · exact e_or h k (Nat.le_refl _) (by omega)
  · show eqP bitV (N + 2) (E ++ []) (RE ++ [])
    rw [List.append_nil, List.append_nil]
    exact eqP_m k (by omega)
/-- what is joined by and, by or, is closed -/
theorem clB {x : Bool} {w : Nat} {a b : Mem} {t : Nat → Nat} {n j sc : Nat} {L : List (Nat × Nat × Nat × Nat)} {C : List Int32} {R : List (Int32 × Int32)} {S : List Int32} (hw : ¬ nI w = 9) (h : ST a b t n L j C R (sc + bN x) (S.length + bN x)) (hN : PN b (bS x (nI w) ++ S)) (hS : S.head? ≠ some (nI w)) (hl : S.length ≤ 38) : ∃ a' b', (bif x then F_L_put (nI w) 0 a else some (0, a)) = some (0, a') ∧ F_R_settles (nI w) b = some (0, b') ∧ ST a' b' t n L j (C ++ bC x w) (R ++ bR x w) sc S.length ∧ PN b' S ∧ b' 123 26 = b 123 26 ∧ frP a a' ∧ frV b b' := by
  obtain ⟨f, hf, f5⟩ := gF_s
  obtain ⟨g, hg⟩ : ∃ g, f = g + 1 := ⟨f - 1, by omega⟩
  have es : F_R_settles (nI w) b = F_R_settles_0 (f + 1) (nI w) b := by rw [F_R_settles, hf]
  cases x with
  | false =>
    have e1 : C ++ bC false w = C := List.append_nil C
    have e2 : R ++ bR false w = R := List.append_nil R
    rw [e1, e2]
    have hN : PN b S := hN
    exact ⟨a, b, rfl, es.trans (stl0 hN hS (by omega)), h, hN, rfl, frP_0 a, frV_0 b⟩
  | true =>
    obtain ⟨a', p1, ⟨g1, g2, g3, g4, g5, g6⟩, p3⟩ := ST_pc (sc := sc) (sr := S.length + 1) h w 0
    have := g1.1
    have := g1.2.1
    have hN : PN b (nI w :: S) := hN
    have e := stl1 (f := f) hN g4 hl (by omega)
    rw [if_neg hw, hg, stl0 (PN_pop hN) hS (by omega)] at e
    rw [hg] at es
    refine ⟨a', _, p1, es.trans e, ⟨g1, PSt_V g2 (frV_t (frV_123 (by omega)) frV_em), g3, HR_em (HR_k g4 (by decide)), g5, ?_⟩, PN_pop hN, (em_123 (by decide)).trans (mw_k (by decide)), p3, frV_t (frV_123 (by omega)) frV_em⟩
    rw [show bR true w = [(nI w, 0)] from rfl, len1]
    omega
/-! the class's loop behind a comparison -/
noncomputable def cTl (rc : Nat → Int32 → Mem → Option (Int32 × Mem)) (n : Nat) (x1 x3 : Int32) (s : Mem) : Option (Int32 × Mem) := (F_P_kind s).bind fun z2 => if z2.1 = 5 then F_P_readCondition_4 rc n x1 1 x3 (mw z2.2 76 4 ((z2.2 76 4) + 1)) else if x3 = 0 then (F_P_kind z2.2).bind fun z4 => if z4.1 = 4 then F_P_readCondition_4 rc n x1 0 1 (mw z4.2 76 4 ((z4.2 76 4) + 1)) else some (1, z4.2) else (F_L_put 11 0 z2.2).bind fun z6 => (F_P_kind z6.2).bind fun z7 => if z7.1 = 4 then F_P_readCondition_4 rc n x1 0 1 (mw z7.2 76 4 ((z7.2 76 4) + 1)) else some (1, z7.2)
theorem rc_4 {rc : Nat → Int32 → Mem → Option (Int32 × Mem)} {a a1 : Mem} {L : List (Nat × Nat × Nat × Nat)} {j m : Nat} {x1 x2 x3 v : Int32} (hA : ATt a L j) (hp : rc 0 x1 a = some (v, a1)) : F_P_readCondition_4 rc (m + 1) x1 x2 x3 a = if v = 0 then some (0, a1) else if x2 = 0 then cTl rc m x1 x3 a1 else (F_L_put 10 0 a1).bind fun z => cTl rc m x1 x3 z.2 := by
  rw [F_P_readCondition_4, if_neg (notEnd hA), hp]
  rfl
theorem cT_5 {rc : Nat → Int32 → Mem → Option (Int32 × Mem)} {a : Mem} {L : List (Nat × Nat × Nat × Nat)} {j m : Nat} {x1 x3 : Int32} (hA : ATt a L j) (hk : (tkN L j).1 = 5) : cTl rc m x1 x3 a = F_P_readCondition_4 rc m x1 1 x3 (avM a j) := by
  have e : nI (tkN L j).1 = 5 := by rw [hk]; rfl
  have av : mw a 76 4 (a 76 4 + 1) = avM a j := by
    rw [hA.2.2.1, nI_1]
    rfl
  rw [cTl, kindE hA]
  simp only [Option.bind_some, if_pos e, av]
theorem cT_n {rc : Nat → Int32 → Mem → Option (Int32 × Mem)} {a a' : Mem} {L : List (Nat × Nat × Nat × Nat)} {j m : Nat} {x1 : Int32} {x : Bool} (hA : ATt a L j) (hA' : ATt a' L j) (h66 : (tkN L j).1 ≤ 66) (hk : (tkN L j).1 ≠ 5) (hp : (bif x then F_L_put (nI 11) 0 a else some (0, a)) = some (0, a')) : cTl rc m x1 (bI x) a = if (tkN L j).1 = 4 then F_P_readCondition_4 rc m x1 0 1 (avM a' j) else some (1, a') := by
  have e5 : ¬ nI (tkN L j).1 = 5 := fun q => hk ((nI_eq (b := 5) (by omega) (by decide)).mp q)
  have e4 : nI (tkN L j).1 = 4 ↔ (tkN L j).1 = 4 := nI_eq (b := 4) (by omega) (by decide)
  have av : mw a' 76 4 (a' 76 4 + 1) = avM a' j := by
    rw [hA'.2.2.1, nI_1]
    rfl
  rw [cTl, kindE hA]
  simp only [Option.bind_some, if_neg e5]
  cases x with
  | false =>
    have ea : a = a' := congrArg Prod.snd (Option.some.inj hp)
    subst ea
    rw [if_pos (show bI false = 0 from rfl), kindE hA]
    simp only [Option.bind_some, av]
    by_cases c : (tkN L j).1 = 4
    · rw [if_pos c, if_pos (e4.mpr c)]
    · rw [if_neg c, if_neg (fun q => c (e4.mp q))]
  | true =>
    have hp : F_L_put 11 0 a = some (0, a') := hp
    rw [if_neg (show ¬ bI true = 0 by decide), hp]
    simp only [Option.bind_some, kindE hA', av]
    by_cases c : (tkN L j).1 = 4
    · rw [if_pos c, if_pos (e4.mpr c)]
    · rw [if_neg c, if_neg (fun q => c (e4.mp q))]
/-! the reference's loop -/
noncomputable def rAy (m : Nat) (x1 : Int32) (s : Mem) : Option (Int32 × Mem) := if x1 = 0 then some (0, s) else (F_R_isSign 41 s).bind fun z5 => if z5.1 = 0 then (F_R_errs 1 z5.2).bind fun z6 => some (z6.1, z6.2) else (F_R_settles 9 (mw (mw z5.2 123 28 ((z5.2 123 28) - 1)) 123 26 ((mw z5.2 123 28 ((z5.2 123 28) - 1) 123 26) - 1))).bind fun z9 => (F_R_reads z9.2).bind fun z10 => F_R_readAny_7 m (x1 - 1) 0 z10.2
theorem rA_0 {b : Mem} {t : Nat → Nat} {n j m : Nat} {x1 : Int32} {L : List (Nat × Nat × Nat × Nat)} (hP : PSt b t n L j) : F_R_readAny_7 (m + 1) x1 0 b = if (tkN L j).1 = 5 then (F_R_settles 10 b).bind fun z15 => (F_R_waits 10 z15.2).bind fun z16 => (F_R_reads z16.2).bind fun z17 => F_R_readAny_7 m x1 1 z17.2 else if (tkN L j).1 = 4 then (F_R_settles 10 b).bind fun z11 => (F_R_settles 11 z11.2).bind fun z12 => (F_R_waits 11 z12.2).bind fun z13 => (F_R_reads z13.2).bind fun z14 => F_R_readAny_7 m x1 1 z14.2 else (F_R_settles 10 b).bind fun z3 => (F_R_settles 11 z3.2).bind fun z4 => rAy m x1 z4.2 := by
  have i5 : F_R_isWord 5 b = some (if (tkN L j).1 = 5 then 1 else 0, b) := isWE (w := 5) hP (by decide)
  have i4 : F_R_isWord 4 b = some (if (tkN L j).1 = 4 then 1 else 0, b) := isWE (w := 4) hP (by decide)
  rw [F_R_readAny_7, if_pos rfl, i5]
  by_cases c5 : (tkN L j).1 = 5
  · rw [if_pos c5, if_pos c5]
    simp only [Option.bind_some, one0, if_false]
  · rw [if_neg c5, if_neg c5]
    simp only [Option.bind_some, if_true, i4]
    by_cases c4 : (tkN L j).1 = 4
    · rw [if_pos c4, if_pos c4]
      simp only [one0, if_false]
    · rw [if_neg c4, if_neg c4]
      simp only [if_true]
      rfl
/-! a comparison, with so many brackets and nots open around it; a condition -/
def CmpP (F o : Nat) : Prop := ∀ (a b : Mem) (t : Nat → Nat) (n : Nat) (L : List (Nat × Nat × Nat × Nat)) (j : Nat) (C : List Int32) (R : List (Int32 × Int32)) (sc k : Nat) (Q : List Int32) (fu B : Nat), ST a b t n L j C R sc (k + Q.length) → PN b (List.replicate k 9 ++ Q) → Q.head? ≠ some 9 → k ≤ o → k + Q.length ≤ 3 * o + 2 → b 123 26 = nI o → B ≤ o → L.length < fu + j → (∃ j' a' b' c r fu', j < j' ∧ rcF F 0 (nI o) a = some (1, a') ∧ F_R_readAny_7 fu (nI B) 1 b = F_R_readAny_7 fu' (nI B) 0 b' ∧ L.length < fu' + j' ∧ ST a' b' t n L j' (C ++ c) (R ++ (r ++ List.replicate k (9, 0))) sc Q.length ∧ PN b' Q ∧ b' 123 26 = nI (o - k) ∧ eqP bitV (4 + 2 * (8 - o)) c r ∧ frP a a' ∧ frQ b b') ∨ ∃ a' b', rcF F 0 (nI o) a = some (0, a') ∧ F_R_readAny_7 fu (nI B) 1 b = some (-1, b') ∧ flY a b a' b'
def CndP (F o : Nat) : Prop := ∀ (a b : Mem) (t : Nat → Nat) (n : Nat) (L : List (Nat × Nat × Nat × Nat)) (j : Nat) (C : List Int32) (R : List (Int32 × Int32)) (sc : Nat) (S : List Int32) (fu B : Nat), ST a b t n L j C R sc S.length → PN b S → (S = [] ∨ ∃ S', S = 12 :: S') → S.length ≤ 3 * o → b 123 26 = nI o → B ≤ o → L.length < fu + j → (∃ j' a' b' c r fu', j < j' ∧ rcF F 1 (nI o) a = some (1, a') ∧ F_R_readAny_7 fu (nI B) 1 b = rAy fu' (nI B) b' ∧ L.length < fu' + j' + 1 ∧ ST a' b' t n L j' (C ++ c) (R ++ r) sc S.length ∧ PN b' S ∧ b' 123 26 = nI o ∧ eqP bitV (4 + 2 * (8 - o) + 2) c r ∧ frP a a' ∧ frQ b b') ∨ ∃ a' b', rcF F 1 (nI o) a = some (0, a') ∧ F_R_readAny_7 fu (nI B) 1 b = some (-1, b') ∧ flY a b a' b'
theorem hd_S {S : List Int32} {w : Int32} (h : S = [] ∨ ∃ S', S = 12 :: S') (hw : ¬ (12 : Int32) = w) : S.head? ≠ some w := by
  rcases h with rfl | ⟨S', rfl⟩
  · intro k
    have k : (none : Option Int32) = some w := k
    cases k
  · exact fun k => hw (Option.some.inj k)
theorem hd_b {S : List Int32} {w v : Int32} {x : Bool} (h : S.head? ≠ some w) (hw : ¬ v = w) : (bS x v ++ S).head? ≠ some w := by
  cases x with
  | false => exact h
  | true => exact fun k => hw (Option.some.inj k)
theorem len_b {x : Bool} {w : Int32} {S : List Int32} : (bS x w ++ S).length = S.length + bN x := by
  cases x with
  | false => rfl
  | true => rfl
theorem bN_le (x : Bool) : bN x ≤ 1 := by
  cases x <;> decide
theorem jLp {F o : Nat} (hF : CmpP F o) (ho : o ≤ 8) {t : Nat → Nat} {n sc B : Nat} {L : List (Nat × Nat × Nat × Nat)} {C0 : List Int32} {R0 : List (Int32 × Int32)} {S : List Int32} (hS : S = [] ∨ ∃ S', S = 12 :: S') (hSl : S.length ≤ 3 * o) (hB : B ≤ o) : ∀ (q j fc fu : Nat) (a b : Mem) (D E : List Int32) (RD RE : List (Int32 × Int32)) (x2 x3 : Bool), L.length ≤ j + q → q < fc → L.length < fu + j → ST a b t n L j (C0 ++ D ++ E) (R0 ++ RD ++ RE) (sc + bN x3 + bN x2) (S.length + bN x3 + bN x2) → PN b (bS x2 10 ++ (bS x3 11 ++ S)) → b 123 26 = nI o → dP x3 (4 + 2 * (8 - o) + 2) D RD → dP x2 (4 + 2 * (8 - o) + 1) E RE → (∃ j' a' b' c r fu', j < j' ∧ F_P_readCondition_4 (rcF F) fc (nI o) (bI x2) (bI x3) a = some (1, a') ∧ F_R_readAny_7 fu (nI B) 1 b = rAy fu' (nI B) b' ∧ L.length < fu' + j' + 1 ∧ ST a' b' t n L j' (C0 ++ c) (R0 ++ r) sc S.length ∧ PN b' S ∧ b' 123 26 = nI o ∧ eqP bitV (4 + 2 * (8 - o) + 2) c r ∧ frP a a' ∧ frQ b b') ∨ ∃ a' b', F_P_readCondition_4 (rcF F) fc (nI o) (bI x2) (bI x3) a = some (0, a') ∧ F_R_readAny_7 fu (nI B) 1 b = some (-1, b') ∧ flY a b a' b'
  | 0, j, fc, fu, a, b, D, E, RD, RE, x2, x3, hq, _, _, h, _, _, _, _ => by
    have := h.1.1
    omega
  | q + 1, j, fc, fu, a, b, D, E, RD, RE, x2, x3, hq, q1, q2, h, hN, h26, hD, hE => by
    obtain ⟨f, rfl⟩ : ∃ f, fc = f + 1 := ⟨fc - 1, by omega⟩
    have l3 : (bS x3 11 ++ S).length = S.length + bN x3 := len_b
    have l2 : (bS x2 10 ++ (bS x3 11 ++ S)).length = S.length + bN x3 + bN x2 := by rw [len_b, l3]
    have b3 := bN_le x3
    have b2 := bN_le x2
    have hd9 : (bS x2 10 ++ (bS x3 11 ++ S)).head? ≠ some 9 := hd_b (hd_b (hd_S hS (by decide)) (by decide)) (by decide)
    have hd10 : (bS x3 11 ++ S).head? ≠ some 10 := hd_b (hd_S hS (by decide)) (by decide)
    have hd11 : S.head? ≠ some 11 := hd_S hS (by decide)
    have h0 : ST a b t n L j (C0 ++ D ++ E) (R0 ++ RD ++ RE) (sc + bN x3 + bN x2) (0 + (bS x2 10 ++ (bS x3 11 ++ S)).length) := by
      rw [l2, Nat.zero_add]
      exact h
    rcases hF a b t n L j _ _ _ 0 (bS x2 10 ++ (bS x3 11 ++ S)) fu B h0 hN hd9 (Nat.zero_le o) (by omega) h26 hB q2 with ⟨j1, a1, b1, c, r, fu1, u0, u1, u2, u3, u4, u5, u6, u7, u8, u9⟩ | ⟨a1, b1, u1, u2, u3⟩
    · have u4 : ST a1 b1 t n L j1 (C0 ++ D ++ E ++ c) (R0 ++ RD ++ RE ++ (r ++ [])) (sc + bN x3 + bN x2) (bS x2 10 ++ (bS x3 11 ++ S)).length := u4
      rw [List.append_nil, len_b] at u4
      have u6 : b1 123 26 = nI o := u6
      obtain ⟨g, rfl⟩ : ∃ g, fu1 = g + 1 := ⟨fu1 - 1, by have := u4.1.1; omega⟩
      obtain ⟨a2, b2, v1, v2, v3, v4, v5, v6, v7⟩ := clB (w := 10) (by decide) u4 u5 hd10 (by omega)
      have v2 : F_R_settles 10 b1 = some (0, b2) := v2
      have E1 := dE_and hE u7
      have ec : F_P_readCondition_4 (rcF F) (f + 1) (nI o) (bI x2) (bI x3) a = cTl (rcF F) f (nI o) (bI x3) a2 := by
        rw [rc_4 h.1 u1, if_neg (show ¬ (1 : Int32) = 0 by decide)]
        cases x2 with
        | false =>
          have ea : a1 = a2 := congrArg Prod.snd (Option.some.inj v1)
          rw [if_pos (show bI false = 0 from rfl), ea]
        | true =>
          have v1 : F_L_put 10 0 a1 = some (0, a2) := v1
          rw [if_neg (show ¬ bI true = 0 by decide), v1]
          rfl
      have er := u2.trans (rA_0 (m := g) (x1 := nI B) u4.2.1)
      rw [v2] at er
      simp only [Option.bind_some] at er
      have v3 : ST a2 b2 t n L j1 (C0 ++ D ++ (E ++ c ++ bC x2 10)) (R0 ++ RD ++ (RE ++ r ++ bR x2 10)) (sc + bN x3) (S.length + bN x3) := by
        rw [l3] at v3
        simp only [List.append_assoc] at v3 ⊢
        exact v3
      generalize E ++ c ++ bC x2 10 = E' at *
      generalize RE ++ r ++ bR x2 10 = RE' at *
      have v5 : b2 123 26 = nI o := v5.trans u6
      have k66 := tk_ne v3.2.1
      have fP2 : frP a a2 := frP_t u8 v6
      have fQ2 : frQ b b2 := frQ_t u9 v7.1
      by_cases c5 : (tkN L j1).1 = 5
      · obtain ⟨b3', b4, w1, w2, w3, w4, w5, w6, -⟩ := push v3 (by omega) v4 (by omega) 10
        rw [cT_5 v3.1 c5] at ec
        rw [if_pos c5, w1] at er
        simp only [Option.bind_some, w2] at er
        rcases jLp hF ho hS hSl hB q (j1 + 1) f g (avM a2 j1) b4 D E' RD RE' true x3 (by omega) (by omega) (by omega) w3 w4 (w5.trans v5) hD (Or.inl ⟨rfl, E1⟩) with ⟨j', a', b', c', r', fu', y0, y1, y2, y3, y4, y5, y6, y7, y8, y9⟩ | ⟨a', b', y1, y2, y3⟩
        · exact Or.inl ⟨j', a', b', c', r', fu', by omega, ec.trans y1, er.trans y2, y3, y4, y5, y6, y7, frP_t (frP_t fP2 frP_76) y8, frQ_t (frQ_t fQ2 w6) y9⟩
        · exact Or.inr ⟨a', b', ec.trans y1, er.trans y2, flY_t (frA_P (frP_t fP2 frP_76)) (frB_Q (frQ_t fQ2 w6)) y3⟩
      · rw [if_neg c5] at er
        obtain ⟨a3, b3', w1, w2, w3, w4, w5, w6, w7⟩ := clB (w := 11) (by decide) v3 v4 hd11 (by omega)
        have w2 : F_R_settles 11 b2 = some (0, b3') := w2
        have D1 := dE_or hD E1
        rw [cT_n v3.1 w3.1 k66 c5 w1] at ec
        rw [w2] at er
        simp only [Option.bind_some] at er
        have w3 : ST a3 b3' t n L j1 (C0 ++ (D ++ E' ++ bC x3 11)) (R0 ++ (RD ++ RE' ++ bR x3 11)) sc S.length := by
          simp only [List.append_assoc] at w3 ⊢
          exact w3
        generalize D ++ E' ++ bC x3 11 = D' at *
        generalize RD ++ RE' ++ bR x3 11 = RD' at *
        have w5 : b3' 123 26 = nI o := w5.trans v5
        have fP3 : frP a a3 := frP_t fP2 w6
        have fQ3 : frQ b b3' := frQ_t fQ2 w7.1
        by_cases c4 : (tkN L j1).1 = 4
        · obtain ⟨b5, b6, z1, z2, z3, z4, z5, z6, -⟩ := push w3 (by omega) w4 (by omega) 11
          rw [if_pos c4] at ec
          rw [if_pos c4, z1] at er
          simp only [Option.bind_some, z2] at er
          have z3 : ST (avM a3 j1) b6 t n L (j1 + 1) (C0 ++ D' ++ []) (R0 ++ RD' ++ []) (sc + bN true + bN false) (S.length + bN true + bN false) := by
            rw [List.append_nil, List.append_nil]
            exact z3
          rcases jLp hF ho hS hSl hB q (j1 + 1) f g (avM a3 j1) b6 D' [] RD' [] false true (by omega) (by omega) (by omega) z3 z4 (z5.trans w5) (Or.inl ⟨rfl, D1⟩) (Or.inr ⟨rfl, rfl, rfl⟩) with ⟨j', a', b', c', r', fu', y0, y1, y2, y3, y4, y5, y6, y7, y8, y9⟩ | ⟨a', b', y1, y2, y3⟩
          · exact Or.inl ⟨j', a', b', c', r', fu', by omega, ec.trans y1, er.trans y2, y3, y4, y5, y6, y7, frP_t (frP_t fP3 frP_76) y8, frQ_t (frQ_t fQ3 z6) y9⟩
          · exact Or.inr ⟨a', b', ec.trans y1, er.trans y2, flY_t (frA_P (frP_t fP3 frP_76)) (frB_Q (frQ_t fQ3 z6)) y3⟩
        · rw [if_neg c4] at ec er
          exact Or.inl ⟨j1, a3, b3', D', RD', g, u0, ec, er, by omega, w3, w4, w5, D1, fP3, fQ3⟩
    · refine Or.inr ⟨a1, b1, ?_, u2, u3⟩
      rw [rc_4 h.1 u1, if_pos rfl]
theorem cnd_s {F o : Nat} (hF : CmpP F o) (ho : o ≤ 8) : CndP (F + 1) o := by
  intro a b t n L j C R sc S fu B h hN hS hSl h26 hB hfu
  have hl := ST_len h
  have e : rcF (F + 1) 1 (nI o) a = F_P_readCondition_4 (rcF F) gF (nI o) (bI false) (bI false) a := by
    rw [rcF, if_neg (by decide)]
    rfl
  have h1 : ST a b t n L j (C ++ [] ++ []) (R ++ [] ++ []) (sc + bN false + bN false) (S.length + bN false + bN false) := by
    rw [List.append_nil, List.append_nil, List.append_nil, List.append_nil]
    exact h
  rw [e]
  exact jLp hF ho hS hSl hB 500 j gF fu a b [] [] [] [] false false (by omega) (by rw [gF_eq]; decide) hfu h1 hN h26 (Or.inr ⟨rfl, rfl, rfl⟩) (Or.inr ⟨rfl, rfl, rfl⟩)
