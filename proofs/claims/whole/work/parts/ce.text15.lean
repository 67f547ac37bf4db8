/-! ===== text: comparisons, what is pending ===== -/
noncomputable def kC (s : Mem) : Option (Int32 × Mem) := (F_P_readSum s).bind fun z14 => if z14.1 = 0 then some (0, z14.2) else (F_P_kind z14.2).bind fun z15 => (F_C_within z15.1 60 62 z15.2).bind fun z16 => if z16.1 = 0 then (F_P_fail 1 z16.2).bind fun z17 => if z17.1 &&& 1 = z17.1 then some (z17.1, z17.2) else none else (F_P_readSum (mw z16.2 76 4 ((z16.2 76 4) + 1))).bind fun z19 => if z19.1 = 0 then some (0, z19.2) else if z15.1 = 60 then (F_L_put 6 0 z19.2).bind fun z20 => some (1, z20.2) else if z15.1 = 61 then (F_L_put 7 0 z19.2).bind fun z21 => some (1, z21.2) else (F_L_put 8 0 z19.2).bind fun z22 => some (1, z22.2)
theorem jK {a b : Mem} {t : Nat → Nat} {n j sc sr : Nat} {L : List (Nat × Nat × Nat × Nat)} {C : List Int32} {R : List (Int32 × Int32)} (h : ST a b t n L j C R sc sr) : (∃ j' a' b' c r, j < j' ∧ kC a = some (1, a') ∧ F_R_readCompared b = some (0, b') ∧ ST a' b' t n L j' (C ++ c) (R ++ r) sc sr ∧ eqP bitV 4 c r ∧ frP a a' ∧ frS b b') ∨ ∃ a' b', kC a = some (0, a') ∧ F_R_readCompared b = some (-1, b') ∧ flY a b a' b' := by
  rcases jM h with ⟨j1, a1, b1, c1, r1, u0, u1, u2, u3, u4, u5, u6⟩ | ⟨a1, b1, u1, u2, u3⟩
  · have hA := u3.1
    have hP := u3.2.1
    have k66 := tk_ne hP
    have kd1 := kindE hA
    have i60 : F_R_isSign 60 b1 = some (if (tkN L j1).1 = 60 then 1 else 0, b1) := isSE (w := 60) hP (by decide)
    have i61 : F_R_isSign 61 b1 = some (if (tkN L j1).1 = 61 then 1 else 0, b1) := isSE (w := 61) hP (by decide)
    have i62 : F_R_isSign 62 b1 = some (if (tkN L j1).1 = 62 then 1 else 0, b1) := isSE (w := 62) hP (by decide)
    have z1 : ¬ (0 : Int32) = -1 := by decide
    by_cases cs : 60 ≤ (tkN L j1).1 ∧ (tkN L j1).1 ≤ 62
    · have wi : (60 : Int32) ≤ nI (tkN L j1).1 ∧ nI (tkN L j1).1 ≤ 62 := ⟨nI_le (a := 60) cs.1 (by omega), nI_le (b := 62) cs.2 (by decide)⟩
      obtain ⟨b2, q1, fs2, ft2, S2, av, j4⟩ := ST_n u3 (by omega)
      have v15 : b1 123 15 = nI (tkN L j1).1 := (hP.2.2.1.2.2.2.2.2.2.1 (by omega)).2
      have ec : kC a = (F_P_readSum (avM a1 j1)).bind fun z19 => if z19.1 = 0 then some (0, z19.2) else if nI (tkN L j1).1 = 60 then (F_L_put 6 0 z19.2).bind fun z20 => some (1, z20.2) else if nI (tkN L j1).1 = 61 then (F_L_put 7 0 z19.2).bind fun z21 => some (1, z21.2) else (F_L_put 8 0 z19.2).bind fun z22 => some (1, z22.2) := by
        simp only [kC, u1, Option.bind_some, one0, if_false, kd1, C_within, if_pos wi, av]
      have er : F_R_readCompared b = (F_R_readSum b2).bind fun z31 => if z31.1 = (-1) then some ((-1), z31.2) else if nI (tkN L j1).1 = 60 then (F_R_emits 6 0 z31.2).bind fun z32 => some (0, z32.2) else if nI (tkN L j1).1 = 61 then (F_R_emits 7 0 z31.2).bind fun z32 => some (0, z32.2) else (F_R_emits 8 0 z31.2).bind fun z32 => some (0, z32.2) := by
        by_cases d0 : (tkN L j1).1 = 60
        · have e0 : nI (tkN L j1).1 = 60 := by rw [d0]; rfl
          simp only [F_R_readCompared, u2, Option.bind_some, if_neg z1, i60, if_pos d0, one0, if_false, v15, if_pos e0, q1]
        · have e0 : ¬ nI (tkN L j1).1 = 60 := fun k => d0 ((nI_eq (b := 60) (by omega) (by decide)).mp k)
          by_cases d1 : (tkN L j1).1 = 61
          · have e1 : nI (tkN L j1).1 = 61 := by rw [d1]; rfl
            simp only [F_R_readCompared, u2, Option.bind_some, if_neg z1, i60, if_neg d0, if_true, i61, if_pos d1, one0, if_false, v15, if_neg e0, if_pos e1, q1]
          · have e1 : ¬ nI (tkN L j1).1 = 61 := fun k => d1 ((nI_eq (b := 61) (by omega) (by decide)).mp k)
            have d2 : (tkN L j1).1 = 62 := by omega
            simp only [F_R_readCompared, u2, Option.bind_some, if_neg z1, i60, if_neg d0, if_true, i61, if_neg d1, i62, if_pos d2, one0, if_false, v15, if_neg e0, if_neg e1, q1]
      rcases jM S2 with ⟨j3, a3, b3, c2, r2, w0, w1, w2, w3, w4, w5, w6⟩ | ⟨a3, b3, w1, w2, w3⟩
      · rw [w1] at ec
        rw [w2] at er
        simp only [Option.bind_some] at ec er
        rw [if_neg (show ¬ (1 : Int32) = 0 by decide)] at ec
        rw [if_neg z1] at er
        have fin : ∀ (act : Nat) (a4 b4 : Mem), ST a4 b4 t n L j3 (C ++ c1 ++ c2 ++ [wdA act 0]) (R ++ r1 ++ r2 ++ [(nI act, 0)]) sc sr → frP a3 a4 → frS b3 b4 → eqP bitV 4 (c1 ++ c2 ++ [wdA act 0]) (r1 ++ r2 ++ [(nI act, 0)]) → kC a = some (1, a4) → F_R_readCompared b = some (0, b4) → ∃ j' a' b' c r, j < j' ∧ kC a = some (1, a') ∧ F_R_readCompared b = some (0, b') ∧ ST a' b' t n L j' (C ++ c) (R ++ r) sc sr ∧ eqP bitV 4 c r ∧ frP a a' ∧ frS b b' := fun act a4 b4 g1 g2 g3 g4 g5 g6 => by
          refine ⟨j3, a4, b4, c1 ++ c2 ++ [wdA act 0], r1 ++ r2 ++ [(nI act, 0)], by omega, g5, g6, ?_, g4, frP_t u5 (frP_t frP_76 (frP_t w5 g2)), frS_t u6 (frS_t fs2 (frS_t w6 g3))⟩
          rw [← List.append_assoc, ← List.append_assoc, ← List.append_assoc, ← List.append_assoc]
          exact g1
        by_cases d0 : (tkN L j1).1 = 60
        · have e0 : nI (tkN L j1).1 = 60 := by rw [d0]; rfl
          obtain ⟨a4, b4, p1, p2, p3, p4, p5⟩ := ST_p w3 6 0 6 0
          have p1 : F_L_put 6 0 a3 = some (0, a4) := p1
          rw [if_pos e0, p1] at ec
          rw [if_pos e0, p2] at er
          exact Or.inl (fin 6 a4 b4 p3 p4 p5 (e_less u4 w4) ec er)
        · have e0 : ¬ nI (tkN L j1).1 = 60 := fun k => d0 ((nI_eq (b := 60) (by omega) (by decide)).mp k)
          rw [if_neg e0] at ec er
          by_cases d1 : (tkN L j1).1 = 61
          · have e1 : nI (tkN L j1).1 = 61 := by rw [d1]; rfl
            obtain ⟨a4, b4, p1, p2, p3, p4, p5⟩ := ST_p w3 7 0 7 0
            have p1 : F_L_put 7 0 a3 = some (0, a4) := p1
            rw [if_pos e1, p1] at ec
            rw [if_pos e1, p2] at er
            exact Or.inl (fin 7 a4 b4 p3 p4 p5 (e_same u4 w4) ec er)
          · have e1 : ¬ nI (tkN L j1).1 = 61 := fun k => d1 ((nI_eq (b := 61) (by omega) (by decide)).mp k)
            obtain ⟨a4, b4, p1, p2, p3, p4, p5⟩ := ST_p w3 8 0 8 0
            have p1 : F_L_put 8 0 a3 = some (0, a4) := p1
            rw [if_neg e1, p1] at ec
            rw [if_neg e1, p2] at er
            exact Or.inl (fin 8 a4 b4 p3 p4 p5 (e_more u4 w4) ec er)
      · rw [w1] at ec
        rw [w2] at er
        simp only [Option.bind_some, if_true] at ec er
        exact Or.inr ⟨a3, b3, ec, er, flY_t (frA_P (frP_t u5 frP_76)) (frB_Q (frS_t u6 fs2).1) w3⟩
    · have wi : ¬ ((60 : Int32) ≤ nI (tkN L j1).1 ∧ nI (tkN L j1).1 ≤ 62) := fun q => cs ⟨(nI_leI (a := 60) (by decide) (by omega)).mp q.1, (nI_leI (b := 62) (by omega) (by decide)).mp q.2⟩
      refine Or.inr ⟨flM a1 L j1 1, erM b1 L j1 1, ?_, ?_, flY_t (frA_P u5) (frB_Q u6.1) flY_1⟩
      · simp only [kC, u1, Option.bind_some, one0, if_false, kd1, C_within, if_neg wi, if_true, failE hA, b0a]
      · simp only [F_R_readCompared, u2, Option.bind_some, if_neg z1, i60, if_neg (show ¬ (tkN L j1).1 = 60 by omega), if_true, i61, if_neg (show ¬ (tkN L j1).1 = 61 by omega), i62, if_neg (show ¬ (tkN L j1).1 = 62 by omega), errE hP 1]
  · refine Or.inr ⟨a1, b1, ?_, ?_, u3⟩
    · simp only [kC, u1, Option.bind_some, if_true]
    · simp only [F_R_readCompared, u2, Option.bind_some, if_true]
/-! what the reference keeps for later -/
def pL (b : Mem) : List Int32 → Prop
  | [] => True
  | x :: l => b 139 l.length = x ∧ pL b l
def PN (b : Mem) (S : List Int32) : Prop := b 123 28 = nI S.length ∧ pL b S
theorem pL_c {b b' : Mem} : ∀ (S : List Int32), (∀ i, i < S.length → b' 139 i = b 139 i) → pL b S → pL b' S
  | [], _, _ => trivial
  | x :: l, h, k => ⟨(h l.length (Nat.lt_succ_self _)).trans k.1, pL_c l (fun i hi => h i (Nat.lt_succ_of_lt hi)) k.2⟩
theorem PN_S {b b' : Mem} {S : List Int32} (h : PN b S) (k : frS b b') : PN b' S := ⟨k.2.2.2.trans h.1, pL_c S (fun i _ => by rw [k.2.1]) h.2⟩
def frV (b b' : Mem) : Prop := frQ b b' ∧ b' 139 = b 139 ∧ ∀ i, 11 ≤ i → i ≤ 15 → b' 123 i = b 123 i
theorem frV_0 (b : Mem) : frV b b := ⟨frQ_0 b, rfl, fun _ _ _ => rfl⟩
theorem frV_t {a b c : Mem} (h : frV a b) (k : frV b c) : frV a c := ⟨frQ_t h.1 k.1, k.2.1.trans h.2.1, fun i h1 h2 => (k.2.2 i h1 h2).trans (h.2.2 i h1 h2)⟩
theorem PSt_V {b b' : Mem} {t : Nat → Nat} {n j : Nat} {L : List (Nat × Nat × Nat × Nat)} (h : PSt b t n L j) (k : frV b b') : PSt b' t n L j := PSt_o h (fun i => by rw [k.1.1 130 (by decide) (by decide) (by decide) (by decide)]) (fun i => by rw [k.1.1 131 (by decide) (by decide) (by decide) (by decide)]) k.2.2
theorem frQ_123 {b : Mem} {k : Nat} {v : Int32} (h : k = 25 ∨ k = 26 ∨ k = 28) : frQ b (mw b 123 k v) := ⟨fun c h1 _ _ _ => mw_o h1, fun i hi => mw_k (by omega), fun i _ => ⟨by rw [mw_o (by decide)], by rw [mw_o (by decide)]⟩⟩
theorem frV_123 {b : Mem} {k : Nat} {v : Int32} (h : k = 25 ∨ k = 26 ∨ k = 28) : frV b (mw b 123 k v) := ⟨frQ_123 h, mw_o (by decide), fun i h1 h2 => mw_k (by omega)⟩
theorem frV_em {b : Mem} {u : Nat} {o x : Int32} : frV b (emM b u o x) := ⟨frS_em.1, frS_em.2.1, fun i h1 h2 => em_123 (by omega)⟩
theorem HR_k {b : Mem} {k : Nat} {v : Int32} {R : List (Int32 × Int32)} (h : HR b R) (hk : k ≠ 25) : HR (mw b 123 k v) R := ⟨(mw_k (Ne.symm hk)).trans h.1, fun i hi => by rw [mw_o (by decide), mw_o (by decide)]; exact h.2 i hi⟩
theorem stl0 {b : Mem} {S : List Int32} {x : Int32} {f : Nat} (h : PN b S) (hS : S.head? ≠ some x) (hl : S.length ≤ 39) : F_R_settles_0 (f + 1) x b = some (0, b) := by
  cases S with
  | nil =>
    rw [F_R_settles_0, show b 123 28 = 0 from h.1, if_pos (by decide)]
  | cons y S =>
    have hl : S.length + 1 ≤ 39 := hl
    have e : b 123 28 = nI (S.length + 1) := h.1
    have y1 : ¬ y = x := fun q => hS (by rw [q]; rfl)
    rw [F_R_settles_0, e, if_neg (nI_nle (by omega) (by omega)), nI_pred, ld_in (c := 139) rfl (show S.length < 40 by omega) (by decide), h.2.1]
    simp only [Option.bind_some, if_neg y1]
theorem stl1 {b : Mem} {S : List Int32} {R : List (Int32 × Int32)} {x : Int32} {f : Nat} (h : PN b (x :: S)) (hR : HR b R) (hl : S.length ≤ 38) (hr : R.length < 400) : F_R_settles_0 (f + 1) x b = if x = 9 then F_R_settles_0 f x (mw (emM (mw b 123 28 (nI S.length)) R.length x 0) 123 26 (b 123 26 - 1)) else F_R_settles_0 f x (emM (mw b 123 28 (nI S.length)) R.length x 0) := by
  have e : b 123 28 = nI (S.length + 1) := h.1
  have R1 : HR (mw b 123 28 (nI S.length)) R := HR_k hR (by decide)
  have e26 : emM (mw b 123 28 (nI S.length)) R.length x 0 123 26 = b 123 26 := (em_123 (by decide)).trans (mw_k (by decide))
  rw [F_R_settles_0, e, if_neg (nI_nle (by omega) (by omega)), nI_pred, ld_in (c := 139) rfl (show S.length < 40 by omega) (by decide), h.2.1]
  simp only [Option.bind_some, if_true, emE R1 hr, e26]
theorem PN_pop {b : Mem} {S : List Int32} {x y : Int32} {u : Nat} (h : PN b (x :: S)) : PN (emM (mw b 123 28 (nI S.length)) u y 0) S := ⟨(em_123 (by decide)).trans (mwSelf _ _ _ _), pL_c S (fun i _ => by rw [em_o (by decide) (by decide) (by decide), mw_o (by decide)]) h.2.2⟩
theorem stl9 : ∀ (k f o : Nat) (b : Mem) (R : List (Int32 × Int32)) (Q : List Int32), HR b R → PN b (List.replicate k 9 ++ Q) → Q.head? ≠ some 9 → b 123 26 = nI (o + k) → k < f → R.length + k ≤ 400 → k + Q.length ≤ 39 → ∃ b', F_R_settles_0 f 9 b = some (0, b') ∧ HR b' (R ++ List.replicate k (9, 0)) ∧ PN b' Q ∧ b' 123 26 = nI o ∧ frV b b'
  | 0, f, o, b, R, Q, hR, hN, hQ, h26, hf, _, hl => by
    obtain ⟨g, rfl⟩ : ∃ g, f = g + 1 := ⟨f - 1, by omega⟩
    refine ⟨b, stl0 hN hQ (by simpa using hl), ?_, hN, h26, frV_0 b⟩
    rw [show R ++ List.replicate 0 ((9 : Int32), (0 : Int32)) = R from List.append_nil R]
    exact hR
  | k + 1, f, o, b, R, Q, hR, hN, hQ, h26, hf, hr, hl => by
    obtain ⟨g, rfl⟩ : ∃ g, f = g + 1 := ⟨f - 1, by omega⟩
    have hN1 : PN b (9 :: (List.replicate k 9 ++ Q)) := hN
    have ll : (List.replicate k (9 : Int32) ++ Q).length = k + Q.length := by rw [List.length_append, List.length_replicate]
    have e := stl1 (f := g) hN1 hR (by omega) (by omega)
    rw [if_pos rfl] at e
    have hN2 : PN (emM (mw b 123 28 (nI (List.replicate k (9 : Int32) ++ Q).length)) R.length 9 0) (List.replicate k 9 ++ Q) := PN_pop hN1
    have hR2 : HR (emM (mw b 123 28 (nI (List.replicate k (9 : Int32) ++ Q).length)) R.length 9 0) (R ++ [(9, 0)]) := HR_em (HR_k hR (by decide))
    have fV2 : frV b (emM (mw b 123 28 (nI (List.replicate k (9 : Int32) ++ Q).length)) R.length 9 0) := frV_t (frV_123 (by omega)) frV_em
    generalize emM (mw b 123 28 (nI (List.replicate k (9 : Int32) ++ Q).length)) R.length 9 0 = b2 at *
    have h26' : b 123 26 - 1 = nI (o + k) := by
      rw [h26]
      exact nI_pred (o + k)
    rw [h26'] at e
    obtain ⟨b', y1, y2, y3, y4, y5⟩ := stl9 k g o (mw b2 123 26 (nI (o + k))) (R ++ [(9, 0)]) Q (HR_k hR2 (by decide)) ⟨(mw_k (by decide)).trans hN2.1, pL_c _ (fun i _ => by rw [mw_o (by decide)]) hN2.2⟩ hQ (mwSelf _ _ _ _) (by omega) (by rw [len1]; omega) (by omega)
    refine ⟨b', e.trans y1, ?_, y3, y4, frV_t fV2 (frV_t (frV_123 (by omega)) y5)⟩
    rw [List.append_assoc] at y2
    exact y2
/-! it waits -/
def wtM (b : Mem) (u : Nat) (x : Int32) : Mem := mw (mw b 139 u x) 123 28 (nI (u + 1))
theorem wtE {b : Mem} {S : List Int32} (h : PN b S) (hl : S.length < 40) (x : Int32) : F_R_waits x b = some (0, wtM b S.length x) := by
  have s1 : sd b 139 (nI S.length) x = some (mw b 139 S.length x) := sd_in rfl (show S.length < 40 from hl) (by decide)
  have q1 : mw b 139 S.length x 123 28 = nI S.length := (congrFun (mw_o (by decide)) 28).trans h.1
  simp only [F_R_waits, h.1, s1, Option.bind_some, q1, nI_1]
  rfl
theorem wt_139 {b : Mem} {u : Nat} {x : Int32} : wtM b u x 139 = mw b 139 u x 139 := mw_o (by decide)
theorem PN_wt {b : Mem} {S : List Int32} {x : Int32} (h : PN b S) : PN (wtM b S.length x) (x :: S) := ⟨mwSelf _ _ _ _, by rw [wt_139, mwSelf], pL_c S (fun i hi => by rw [wt_139, mw_k (by omega)]) h.2⟩
theorem wt_123 {b : Mem} {u k : Nat} {x : Int32} (h : k ≠ 28) : wtM b u x 123 k = b 123 k := (mw_k h).trans (congrFun (mw_o (by decide)) k)
theorem wt_o {b : Mem} {u c : Nat} {x : Int32} (h1 : c ≠ 123) (h2 : c ≠ 139) : wtM b u x c = b c := (mw_o h1).trans (mw_o h2)
theorem frQ_wt {b : Mem} {u : Nat} {x : Int32} : frQ b (wtM b u x) := ⟨fun c h1 _ _ h4 => wt_o h1 h4, fun k hk => wt_123 (by omega), fun k _ => ⟨by rw [wt_o (by decide) (by decide)], by rw [wt_o (by decide) (by decide)]⟩⟩
theorem PSt_wt {b : Mem} {t : Nat → Nat} {n j u : Nat} {x : Int32} {L : List (Nat × Nat × Nat × Nat)} (h : PSt b t n L j) : PSt (wtM b u x) t n L j := PSt_o h (fun i => by rw [wt_o (by decide) (by decide)]) (fun i => by rw [wt_o (by decide) (by decide)]) (fun i h1 h2 => wt_123 (by omega))
theorem HR_wt {b : Mem} {u : Nat} {x : Int32} {R : List (Int32 × Int32)} (h : HR b R) : HR (wtM b u x) R := ⟨(wt_123 (by decide)).trans h.1, fun i hi => by rw [wt_o (by decide) (by decide), wt_o (by decide) (by decide)]; exact h.2 i hi⟩
/-- something waits, and the next token is read -/
theorem push {a b : Mem} {t : Nat → Nat} {n j sc sr : Nat} {L : List (Nat × Nat × Nat × Nat)} {C : List Int32} {R : List (Int32 × Int32)} {S : List Int32} (h : ST a b t n L j C R sc sr) (hk : (tkN L j).1 ≠ 66) (hN : PN b S) (hl : S.length < 40) (x : Int32) : ∃ b1 b', F_R_waits x b = some (0, b1) ∧ F_R_reads b1 = some (0, b') ∧ ST (avM a j) b' t n L (j + 1) C R (sc + 1) (sr + 1) ∧ PN b' (x :: S) ∧ b' 123 26 = b 123 26 ∧ frQ b b' ∧ mw a 76 4 (a 76 4 + 1) = avM a j := by
  obtain ⟨h1, h2, h3, h4, h5, h6⟩ := h
  have S1 : ST a (wtM b S.length x) t n L j C R sc sr := ⟨h1, PSt_wt h2, h3, HR_wt h4, h5, h6⟩
  obtain ⟨b', r1, fs, ft, S2, av, -⟩ := ST_n S1 hk
  exact ⟨_, b', wtE hN hl x, r1, S2, PN_S (PN_wt hN) fs, fs.2.2.1.trans (wt_123 (by decide)), frQ_t frQ_wt fs.1, av⟩
/-- the class puts alone -/
theorem ST_pc {a b : Mem} {t : Nat → Nat} {n j sc sr : Nat} {L : List (Nat × Nat × Nat × Nat)} {C : List Int32} {R : List (Int32 × Int32)} (h : ST a b t n L j C R (sc + 1) sr) (act v : Nat) : ∃ a', F_L_put (nI act) (nI v) a = some (0, a') ∧ ST a' b t n L j (C ++ [wdA act v]) R sc sr ∧ frP a a' := by
  obtain ⟨h1, h2, h3, h4, h5, h6⟩ := h
  have := h1.1
  have := h1.2.1
  exact ⟨_, putE h3 (by omega) act v, ⟨ATt_pt h1, h2, HC_pt h3, h4, by rw [len1]; omega, h6⟩, frP_pt⟩
