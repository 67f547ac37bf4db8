/-! ===== text: the law's sums ===== -/
theorem gd_l {α : Type} {l : List α} {w d : α} {i : Nat} (h : i < l.length) : (l ++ [w]).getD i d = l.getD i d := by
  simp [List.getD, List.getElem?_append_left h]
theorem gd_r {α : Type} {l : List α} {w d : α} : (l ++ [w]).getD l.length d = w := by
  simp [List.getD]
/-- the code that the class has put, that the reference has emitted -/
def HC (a : Mem) (C : List Int32) : Prop := a 80 1 = nI C.length ∧ ∀ i, i < C.length → a 81 i = C.getD i 0
def HR (b : Mem) (R : List (Int32 × Int32)) : Prop := b 123 25 = nI R.length ∧ ∀ i, i < R.length → b 137 (800 + i) = (R.getD i (0, 0)).1 ∧ b 138 (800 + i) = (R.getD i (0, 0)).2
def frP (a a' : Mem) : Prop := (∀ c, c ≠ 76 → c ≠ 80 → c ≠ 81 → a' c = a c) ∧ ∀ k, k ≠ 1 → a' 80 k = a 80 k
def frQ (b b' : Mem) : Prop := (∀ c, c ≠ 123 → c ≠ 137 → c ≠ 138 → c ≠ 139 → b' c = b c) ∧ (∀ k, (k < 12 ∨ (15 < k ∧ k ≠ 25 ∧ k ≠ 26 ∧ k ≠ 28)) → b' 123 k = b 123 k) ∧ ∀ k, k < 800 → b' 137 k = b 137 k ∧ b' 138 k = b 138 k
def frS (b b' : Mem) : Prop := frQ b b' ∧ b' 139 = b 139 ∧ b' 123 26 = b 123 26 ∧ b' 123 28 = b 123 28
theorem frP_0 (a : Mem) : frP a a := ⟨fun _ _ _ _ => rfl, fun _ _ => rfl⟩
theorem frP_t {a b c : Mem} (h : frP a b) (k : frP b c) : frP a c := ⟨fun x h1 h2 h3 => (k.1 x h1 h2 h3).trans (h.1 x h1 h2 h3), fun x hx => (k.2 x hx).trans (h.2 x hx)⟩
theorem frQ_0 (a : Mem) : frQ a a := ⟨fun _ _ _ _ _ => rfl, fun _ _ => rfl, fun _ _ => ⟨rfl, rfl⟩⟩
theorem frQ_t {a b c : Mem} (h : frQ a b) (k : frQ b c) : frQ a c := ⟨fun x h1 h2 h3 h4 => (k.1 x h1 h2 h3 h4).trans (h.1 x h1 h2 h3 h4), fun x hx => (k.2.1 x hx).trans (h.2.1 x hx), fun x hx => ⟨(k.2.2 x hx).1.trans (h.2.2 x hx).1, (k.2.2 x hx).2.trans (h.2.2 x hx).2⟩⟩
theorem frS_0 (a : Mem) : frS a a := ⟨frQ_0 a, rfl, rfl, rfl⟩
theorem frS_t {a b c : Mem} (h : frS a b) (k : frS b c) : frS a c := ⟨frQ_t h.1 k.1, k.2.1.trans h.2.1, k.2.2.1.trans h.2.2.1, k.2.2.2.trans h.2.2.2⟩
theorem frA_P {a a' : Mem} (h : frP a a') : frA a a' := ⟨fun c k hr => by
  by_cases h1 : c = 76
  · subst h1
    exact Bool.noConfusion (show false = true from hr)
  · by_cases h2 : c = 80
    · subst h2
      exact Bool.noConfusion (show false = true from hr)
    · by_cases h3 : c = 81
      · subst h3
        exact Bool.noConfusion (show false = true from hr)
      · rw [h.1 c h1 h2 h3], fun c hc => h.1 c (by omega) (by omega) (by omega)⟩
theorem frB_Q {b b' : Mem} (h : frQ b b') : frB b b' := ⟨fun c k hr => by
  by_cases h1 : c = 123
  · subst h1
    have q1 : k ≠ 12 := fun e => by subst e; exact Bool.noConfusion (show false = true from hr)
    have q2 : k ≠ 13 := fun e => by subst e; exact Bool.noConfusion (show false = true from hr)
    have q3 : k ≠ 14 := fun e => by subst e; exact Bool.noConfusion (show false = true from hr)
    have q4 : k ≠ 15 := fun e => by subst e; exact Bool.noConfusion (show false = true from hr)
    have q5 : k ≠ 25 := fun e => by subst e; exact Bool.noConfusion (show false = true from hr)
    have q6 : k ≠ 26 := fun e => by subst e; exact Bool.noConfusion (show false = true from hr)
    have q7 : k ≠ 28 := fun e => by subst e; exact Bool.noConfusion (show false = true from hr)
    exact h.2.1 k (by omega)
  · by_cases h2 : c = 137
    · subst h2
      have hr : Nat.blt k 400 = true := hr
      have := Nat.le_of_ble_eq_true hr
      exact (h.2.2 k (by omega)).1
    · by_cases h3 : c = 138
      · subst h3
        have hr : Nat.blt k 400 = true := hr
        have := Nat.le_of_ble_eq_true hr
        exact (h.2.2 k (by omega)).2
      · by_cases h4 : c = 139
        · subst h4
          exact Bool.noConfusion (show false = true from hr)
        · rw [h.1 c h1 h2 h3 h4], fun c hc => h.1 c (by omega) (by omega) (by omega) (by omega)⟩
theorem frS_T {b b' : Mem} (h : frT b b') : frS b b' := ⟨⟨fun c h1 _ _ _ => h.1 c h1, fun k hk => h.2 k (by omega) (by omega) (by omega) (by omega), fun k _ => ⟨by rw [h.1 137 (by decide)], by rw [h.1 138 (by decide)]⟩⟩, h.1 139 (by decide), h.2 26 (by decide) (by decide) (by decide) (by decide), h.2 28 (by decide) (by decide) (by decide) (by decide)⟩
theorem frP_76 {a : Mem} {k : Nat} {v : Int32} : frP a (mw a 76 k v) := ⟨fun c h1 _ _ => mw_o h1, fun k _ => by rw [mw_o (by decide)]⟩
theorem HC_76 {a : Mem} {k : Nat} {v : Int32} {C : List Int32} (h : HC a C) : HC (mw a 76 k v) C := ⟨by rw [mw_o (by decide)]; exact h.1, fun i hi => by rw [mw_o (by decide)]; exact h.2 i hi⟩
/-! the class puts -/
def ptM (a : Mem) (u : Nat) (w : Int32) : Mem := mw (mw a 81 u w) 80 1 (nI (u + 1))
theorem putE {a : Mem} {C : List Int32} (h : HC a C) (hl : C.length < 400) (act v : Nat) : F_L_put (nI act) (nI v) a = some (0, ptM a C.length (wdA act v)) := by
  rw [F_L_put, h.1, if_neg (nI_pos (by omega)), if_neg (show ¬ (400 : Int32) ≤ nI C.length from nI_ge (b := 400) hl (by decide)), sd_in (c := 81) rfl (show C.length < 400 from hl) (by decide)]
  simp only [Option.bind_some]
  rw [show mw a 81 C.length (shl (nI v) 4 ||| nI act) 80 1 = nI C.length from (congrFun (mw_o (by decide)) 1).trans h.1, nI_1]
  rfl
theorem HC_pt {a : Mem} {C : List Int32} {w : Int32} (h : HC a C) : HC (ptM a C.length w) (C ++ [w]) := by
  refine ⟨?_, fun i hi => ?_⟩
  · unfold ptM
    rw [mwSelf, List.length_append]
    rfl
  · rw [show ptM a C.length w 81 = mw a 81 C.length w 81 from mw_o (by decide)]
    rw [List.length_append] at hi
    have hi : i < C.length + 1 := hi
    by_cases c : i = C.length
    · rw [c, mwSelf, gd_r]
    · rw [mw_k c, gd_l (by omega)]
      exact h.2 i (by omega)
theorem frP_pt {a : Mem} {u : Nat} {w : Int32} : frP a (ptM a u w) := by
  unfold ptM
  exact ⟨fun c h1 h2 h3 => (mw_o h2).trans (mw_o h3), fun k hk => (mw_k hk).trans (congrFun (mw_o (by decide)) k)⟩
theorem ATt_pt {a : Mem} {L : List (Nat × Nat × Nat × Nat)} {j u : Nat} {w : Int32} (h : ATt a L j) : ATt (ptM a u w) L j := ATt_o h ((mw_o (by decide)).trans (mw_o (by decide))) ((mw_o (by decide)).trans (mw_o (by decide))) ((mw_o (by decide)).trans (mw_o (by decide))) ((mw_o (by decide)).trans (mw_o (by decide)))
/-! the reference emits -/
def emM (b : Mem) (u : Nat) (o x : Int32) : Mem := mw (mw (mw b 137 (800 + u) o) 138 (800 + u) x) 123 25 (nI (u + 1))
theorem emE {b : Mem} {R : List (Int32 × Int32)} (h : HR b R) (hl : R.length < 400) (o x : Int32) : F_R_emits o x b = some (0, emM b R.length o x) := by
  have e8 : (800 : Int32) + nI R.length = nI (800 + R.length) := nI_add 800 _
  have s1 : sd b 137 (nI (800 + R.length)) o = some (mw b 137 (800 + R.length) o) := sd_in rfl (show 800 + R.length < 1200 by omega) (by decide)
  have s2 : sd (mw b 137 (800 + R.length) o) 138 (nI (800 + R.length)) x = some (mw (mw b 137 (800 + R.length) o) 138 (800 + R.length) x) := sd_in rfl (show 800 + R.length < 1200 by omega) (by decide)
  have q1 : mw b 137 (800 + R.length) o 123 25 = nI R.length := (congrFun (mw_o (by decide)) 25).trans h.1
  have q2 : mw (mw b 137 (800 + R.length) o) 138 (800 + R.length) x 123 25 = nI R.length := (congrFun (mw_o (by decide)) 25).trans q1
  simp only [F_R_emits, h.1, e8, s1, Option.bind_some, q1, s2, q2, nI_1]
  rfl
theorem HR_em {b : Mem} {R : List (Int32 × Int32)} {o x : Int32} (h : HR b R) : HR (emM b R.length o x) (R ++ [(o, x)]) := by
  refine ⟨?_, fun i hi => ?_⟩
  · unfold emM
    rw [mwSelf, List.length_append]
    rfl
  · have e1 : emM b R.length o x 137 = mw b 137 (800 + R.length) o 137 := (mw_o (by decide)).trans (mw_o (by decide))
    have e2 : emM b R.length o x 138 = mw (mw b 137 (800 + R.length) o) 138 (800 + R.length) x 138 := mw_o (by decide)
    rw [e1, e2]
    rw [List.length_append] at hi
    have hi : i < R.length + 1 := hi
    by_cases c : i = R.length
    · rw [c, mwSelf, mwSelf, gd_r]
      exact ⟨rfl, rfl⟩
    · rw [mw_k (by omega), mw_k (by omega), gd_l (by omega), mw_o (by decide)]
      exact h.2 i (by omega)
theorem em_123 {b : Mem} {u k : Nat} {o x : Int32} (h : k ≠ 25) : emM b u o x 123 k = b 123 k := (mw_k h).trans (congrFun ((mw_o (by decide)).trans (mw_o (by decide))) k)
theorem em_o {b : Mem} {u c : Nat} {o x : Int32} (h1 : c ≠ 123) (h2 : c ≠ 137) (h3 : c ≠ 138) : emM b u o x c = b c := (mw_o h1).trans ((mw_o h3).trans (mw_o h2))
theorem PSt_em {b : Mem} {t : Nat → Nat} {n j u : Nat} {o x : Int32} {L : List (Nat × Nat × Nat × Nat)} (h : PSt b t n L j) : PSt (emM b u o x) t n L j := PSt_o h (fun k => congrFun (em_o (by decide) (by decide) (by decide)) k) (fun k => congrFun (em_o (by decide) (by decide) (by decide)) k) (fun k _ _ => em_123 (by omega))
theorem frS_em {b : Mem} {u : Nat} {o x : Int32} : frS b (emM b u o x) := by
  refine ⟨⟨fun c h1 h2 h3 _ => em_o h1 h2 h3, fun k hk => em_123 (by omega), fun k hk => ⟨?_, ?_⟩⟩, em_o (by decide) (by decide) (by decide), em_123 (by decide), em_123 (by decide)⟩
  · rw [show emM b u o x 137 = mw b 137 (800 + u) o 137 from (mw_o (by decide)).trans (mw_o (by decide)), mw_k (by omega)]
  · rw [show emM b u o x 138 = mw (mw b 137 (800 + u) o) 138 (800 + u) x 138 from mw_o (by decide), mw_k (by omega), mw_o (by decide)]
theorem HR_T {b b' : Mem} {R : List (Int32 × Int32)} (h : HR b R) (k : frT b b') : HR b' R := ⟨(k.2 25 (by decide) (by decide) (by decide) (by decide)).trans h.1, fun i hi => by rw [k.1 137 (by decide), k.1 138 (by decide)]; exact h.2 i hi⟩
/-- where both stand, what they have put -/
def ST (a b : Mem) (t : Nat → Nat) (n : Nat) (L : List (Nat × Nat × Nat × Nat)) (j : Nat) (C : List Int32) (R : List (Int32 × Int32)) (sc sr : Nat) : Prop := ATt a L j ∧ PSt b t n L j ∧ HC a C ∧ HR b R ∧ C.length + sc ≤ j ∧ R.length + sr ≤ j
theorem len1 {α : Type} (l : List α) (w : α) : (l ++ [w]).length = l.length + 1 := List.length_append
/-- both go over a token -/
theorem ST_n {a b : Mem} {t : Nat → Nat} {n j sc sr : Nat} {L : List (Nat × Nat × Nat × Nat)} {C : List Int32} {R : List (Int32 × Int32)} (h : ST a b t n L j C R sc sr) (hk : (tkN L j).1 ≠ 66) : ∃ b', F_R_reads b = some (0, b') ∧ frS b b' ∧ frT b b' ∧ ST (avM a j) b' t n L (j + 1) C R (sc + 1) (sr + 1) ∧ mw a 76 4 (a 76 4 + 1) = avM a j ∧ j + 1 ≤ 400 := by
  obtain ⟨h1, h2, h3, h4, h5, h6⟩ := h
  obtain ⟨b', k1, k2, k3⟩ := nextR h2 hk
  refine ⟨b', k1, frS_T k2, k2, ⟨ATt_av h1 k3.1, k3, HC_76 h3, HR_T h4 k2, by omega, by omega⟩, ?_, ?_⟩
  · rw [h1.2.2.1, nI_1]
    rfl
  · have := k3.1
    have := h1.2.1
    omega
/-- the class puts, the reference emits -/
theorem ST_p {a b : Mem} {t : Nat → Nat} {n j sc sr : Nat} {L : List (Nat × Nat × Nat × Nat)} {C : List Int32} {R : List (Int32 × Int32)} (h : ST a b t n L j C R (sc + 1) (sr + 1)) (act v : Nat) (o x : Int32) : ∃ a' b', F_L_put (nI act) (nI v) a = some (0, a') ∧ F_R_emits o x b = some (0, b') ∧ ST a' b' t n L j (C ++ [wdA act v]) (R ++ [(o, x)]) sc sr ∧ frP a a' ∧ frS b b' := by
  obtain ⟨h1, h2, h3, h4, h5, h6⟩ := h
  have := h1.1
  have := h1.2.1
  refine ⟨_, _, putE h3 (by omega) act v, emE h4 (by omega) o x, ⟨ATt_pt h1, PSt_em h2, HC_pt h3, HR_em h4, ?_, ?_⟩, frP_pt, frS_em⟩
  · rw [len1]; omega
  · rw [len1]; omega
theorem notEnd {a : Mem} {L : List (Nat × Nat × Nat × Nat)} {j : Nat} (h : ATt a L j) : ¬ a 76 3 ≤ a 76 4 := by
  rw [h.2.2.1, h.2.2.2.1]
  exact nI_ge h.1 (by have := h.2.1; omega)
noncomputable def tlC (m : Nat) (x1 : Int32) (s : Mem) : Option (Int32 × Mem) := if x1 = 0 then F_P_readProduct_49 (F_P_readProduct_2 m) gF s else (F_L_put 4 0 s).bind fun z => F_P_readProduct_49 (F_P_readProduct_2 m) gF z.2
/-- a fact or a number -/
theorem jU {a b : Mem} {t : Nat → Nat} {n j sc sr : Nat} {L : List (Nat × Nat × Nat × Nat)} {C : List Int32} {R : List (Int32 × Int32)} (h : ST a b t n L j C R sc sr) : (∃ w o x a' b', (∀ m x1, F_P_readProduct_2 (m + 1) x1 a = tlC m x1 a') ∧ F_R_readUnit b = some (0, b') ∧ ST a' b' t n L (j + 1) (C ++ [w]) (R ++ [(o, x)]) sc sr ∧ eqP anyV 1 [w] [(o, x)] ∧ frP a a' ∧ frS b b') ∨ ∃ a' b', (∀ m x1, F_P_readProduct_2 (m + 1) x1 a = some (0, a')) ∧ F_R_readUnit b = some (-1, b') ∧ flY a b a' b' := by
  obtain ⟨h1, h2, h3, h4, h5, h6⟩ := id h
  have k66 := tk_ne h2
  have ne := notEnd h1
  have kd1 := kindE h1
  have hn := isNE h2
  by_cases c64 : (tkN L j).1 = 64
  · obtain ⟨t1, t2, t3⟩ := h2.2.2.1.2.2.2.2.1 c64
    have ok : okN L j 0 9999 := ⟨c64, nI_pos' (by omega), nI_le (b := 9999) t3 (by decide)⟩
    have x1c := (tnC h1 0 9999 k66).1 ok
    have wi : ¬ ((7 : Int32) ≤ nI (tkN L j).1 ∧ nI (tkN L j).1 ≤ 17) := by rw [c64]; decide
    have Pe : PSt (emM b R.length 0 (nI (tkN L j).2.1)) t n L j := PSt_em h2
    obtain ⟨b', r1, r2, r3⟩ := nextR Pe (by omega)
    have hl := r3.1
    have hl2 := h1.2.1
    have A1 := ATt_nm (v := (tkN L j).2.1) h1 hl
    have HC1 : HC (nmM a j (tkN L j).2.1) C := HC_76 (HC_76 h3)
    have p1 : F_L_put 0 (nI (tkN L j).2.1) (nmM a j (tkN L j).2.1) = some (0, ptM (nmM a j (tkN L j).2.1) C.length (wdA 0 (tkN L j).2.1)) := putE HC1 (by omega) 0 _
    have e5 : nmM a j (tkN L j).2.1 76 5 = nI (tkN L j).2.1 := by
      unfold nmM
      rw [mw_k (by decide), mwSelf]
    refine Or.inl ⟨wdA 0 (tkN L j).2.1, 0, nI (tkN L j).2.1, ptM (nmM a j (tkN L j).2.1) C.length (wdA 0 (tkN L j).2.1), b', fun m x1 => ?_, ?_, ⟨ATt_pt A1, r3, HC_pt HC1, HR_T (HR_em h4) r2, by rw [len1]; omega, by rw [len1]; omega⟩, e_num t3, frP_t (frP_t frP_76 frP_76) frP_pt, frS_t frS_em (frS_T r2)⟩
    · rw [F_P_readProduct_2, if_neg ne, kd1]
      simp only [Option.bind_some, C_within, if_neg wi, if_true, x1c, one0, if_false, e5, p1]
      rfl
    · have n2 : ¬ b 123 14 = 2 := by rw [t1]; decide
      rw [F_R_readUnit, if_neg n2, if_pos t1, t2, emE h4 (by omega)]
      simp only [Option.bind_some, r1]
  · by_cases cf : 7 ≤ (tkN L j).1 ∧ (tkN L j).1 ≤ 17
    · obtain ⟨t1, t2⟩ := h2.2.2.1.2.2.2.2.2.1 (by omega)
      have wi : (7 : Int32) ≤ nI (tkN L j).1 ∧ nI (tkN L j).1 ≤ 17 := ⟨nI_le (a := 7) cf.1 (by omega), nI_le (b := 17) cf.2 (by decide)⟩
      have e7 : nI (tkN L j).1 - 7 = nI ((tkN L j).1 - 7) := n_sub (b := 7) cf.1
      have Pe : PSt (emM b R.length 1 (nI ((tkN L j).1 - 7))) t n L j := PSt_em h2
      obtain ⟨b', r1, r2, r3⟩ := nextR Pe (by omega)
      have hl := r3.1
      have hl2 := h1.2.1
      have p1 : F_L_put 1 (nI ((tkN L j).1 - 7)) a = some (0, ptM a C.length (wdA 1 ((tkN L j).1 - 7))) := putE h3 (by omega) 1 _
      have A1 : ATt (ptM a C.length (wdA 1 ((tkN L j).1 - 7))) L j := ATt_pt h1
      have av : mw (ptM a C.length (wdA 1 ((tkN L j).1 - 7))) 76 4 (ptM a C.length (wdA 1 ((tkN L j).1 - 7)) 76 4 + 1) = avM (ptM a C.length (wdA 1 ((tkN L j).1 - 7))) j := by
        rw [A1.2.2.1, nI_1]
        rfl
      refine Or.inl ⟨wdA 1 ((tkN L j).1 - 7), 1, nI ((tkN L j).1 - 7), avM (ptM a C.length (wdA 1 ((tkN L j).1 - 7))) j, b', fun m x1 => ?_, ?_, ⟨ATt_av A1 hl, r3, HC_76 (HC_pt h3), HR_T (HR_em h4) r2, by rw [len1]; omega, by rw [len1]; omega⟩, e_fact (by omega), frP_t frP_pt frP_76, frS_t frS_em (frS_T r2)⟩
      · rw [F_P_readProduct_2, if_neg ne, kd1]
        simp only [Option.bind_some, C_within, if_pos wi, one0, if_false, kd1, e7, p1, av]
        rfl
      · have ca : F_R_canAsk (nI (tkN L j).1) b = some (1, b) := by
          rw [F_R_canAsk, R_isIn, if_pos wi]
          simp only [Option.bind_some, b1a, if_true]
        rw [F_R_readUnit, if_pos t1, t2, ca]
        simp only [Option.bind_some, one0, if_false, t2, e7, emE h4 (show R.length < 400 by omega), r1]
    · have nk : ¬ okN L j 0 9999 := fun k => c64 k.1
      have x1c := (tnC h1 0 9999 k66).2 nk
      have fk : fkN L j = 1 := if_neg c64
      rw [fk] at x1c
      have wi : ¬ ((7 : Int32) ≤ nI (tkN L j).1 ∧ nI (tkN L j).1 ≤ 17) := fun q => cf ⟨(nI_leI (a := 7) (by decide) (by omega)).mp q.1, (nI_leI (b := 17) (by omega) (by decide)).mp q.2⟩
      refine Or.inr ⟨flM a L j 1, erM b L j 1, fun m x1 => ?_, ?_, flY_1⟩
      · rw [F_P_readProduct_2, if_neg ne, kd1]
        simp only [Option.bind_some, C_within, if_neg wi, if_true, x1c]
      · have n3 : ¬ b 123 14 = 3 := fun k => c64 (hn.1.mp k)
        by_cases c2 : b 123 14 = 2
        · have t2 := (h2.2.2.1.2.2.2.2.2.1 (hn.2.2.mp c2)).2
          have ca : F_R_canAsk (nI (tkN L j).1) b = some (0, b) := by
            rw [F_R_canAsk, R_isIn, if_neg wi]
            simp only [Option.bind_some, b0a, if_true]
          rw [F_R_readUnit, if_pos c2, t2, ca]
          simp only [Option.bind_some, if_true, if_neg n3, errE h2 1]
        · rw [F_R_readUnit, if_neg c2, if_neg n3, errE h2 1]
          rfl
