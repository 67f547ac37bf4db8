/-! ===== text: the class's tokens ===== -/
def vlT (t : Nat → Nat) : Nat → Nat → Nat → Nat
  | 0, _, v => v
  | q + 1, i, v => vlT t q (i + 1) (v * 10 + t i - 48)
theorem dg_48 {c : Nat} (h : dgB c = true) : 48 ≤ c ∧ c ≤ 57 := by
  unfold dgB at h
  rw [Bool.and_eq_true] at h
  exact ⟨of_decide_eq_true h.1, of_decide_eq_true h.2⟩
theorem vo6 {a : Mem} {t : Nat → Nat} {n to : Nat} (hT : TP a t n) (hto : to ≤ n) : ∀ (q i fu v : Nat), i + q = to → q < fu → (∀ k, i ≤ k → k < to → dgB (t k) = true) → F_P_valueOf_6 fu (nI to) (nI v) (nI i) a = some (nI (vlT t q i v), a) := by
  have n4 := hT.1
  intro q
  induction q with
  | zero =>
    intro i fu v hi hfu _
    obtain ⟨fu, rfl⟩ : ∃ k, fu = k + 1 := ⟨fu - 1, by omega⟩
    rw [F_P_valueOf_6, if_pos (nI_le (show to ≤ i by omega) (by omega))]
    rfl
  | succ q ih =>
    intro i fu v hi hfu hd
    obtain ⟨fu, rfl⟩ : ∃ k, fu = k + 1 := ⟨fu - 1, by omega⟩
    have d1 := dg_48 (hd i (Nat.le_refl i) (by omega))
    have lv : ld a 75 (nI i) = some (nI (t i)) := (ld_in rfl (show i < 400 by omega) (by decide)).trans (congrArg some (hT.2 i (by omega)).1)
    have ev : nI v * 10 + nI (t i) - 48 = nI (v * 10 + t i - 48) := by
      rw [show (10 : Int32) = nI 10 from rfl, n_mul, nI_add, show (48 : Int32) = nI 48 from rfl, n_sub (by omega)]
    rw [F_P_valueOf_6, if_neg (nI_ge (show i < to by omega) (by omega)), if_neg (show ¬ (400 : Int32) ≤ nI i from nI_ge (b := 400) (by omega) (by decide)), lv]
    simp only [Option.bind_some, ev, nI_1]
    exact ih (i + 1) fu _ (by omega) (by omega) (fun k k1 k2 => hd k (by omega) k2)
theorem vo_p {a : Mem} {t : Nat → Nat} {n i to : Nat} (hT : TP a t n) (hto : to ≤ n) (hi : i ≤ to) (hd : ∀ k, i ≤ k → k < to → dgB (t k) = true) : F_P_valueOf (nI i) (nI to) a = some (nI (vlT t (to - i) i 0), a) := by
  have n4 := hT.1
  have h := vo6 hT hto (to - i) i gF 0 (by omega) (by rw [gF_eq]; omega) hd
  rw [F_P_valueOf, C_max, if_neg (nI_pos (show i < 2 ^ 31 by omega))]
  exact h
def adM (a : Mem) (c : Nat) (T : Nat × Nat × Nat × Nat) : Mem := mw (mw (mw (mw a 77 c (nI T.1)) 78 c (nI T.2.1)) 79 c (nI T.2.2.1)) 76 3 (nI (c + 1))
theorem adE {a : Mem} {c : Nat} (T : Nat × Nat × Nat × Nat) (h : a 76 3 = nI c) (hc : c ≤ 400) : F_P_addToken (nI T.1) (nI T.2.1) (nI T.2.2.1) a = some (0, adM a c T) := by
  have r1 : 0 ≤ nI c ∧ nI c ≤ 401 - 1 := (rngF (n := 401) (by decide)).mpr ⟨c, by omega, rfl⟩
  have s1 : ∀ v, sd a 77 (nI c) v = some (mw a 77 c v) := fun v => sd_in rfl (show c < 401 by omega) (by decide)
  have s2 : ∀ (s : Mem) v, sd s 78 (nI c) v = some (mw s 78 c v) := fun s v => sd_in rfl (show c < 401 by omega) (by decide)
  have s3 : ∀ (s : Mem) v, sd s 79 (nI c) v = some (mw s 79 c v) := fun s v => sd_in rfl (show c < 401 by omega) (by decide)
  have e1 : ∀ v, mw a 77 c v 76 3 = nI c := fun v => (congrFun (mw_o (by decide)) 3).trans h
  have e2 : ∀ v w, mw (mw a 77 c v) 78 c w 76 3 = nI c := fun v w => (congrFun (mw_o (by decide)) 3).trans (e1 v)
  have e3 : ∀ v w x, mw (mw (mw a 77 c v) 78 c w) 79 c x 76 3 = nI c := fun v w x => (congrFun (mw_o (by decide)) 3).trans (e2 v w)
  simp only [F_P_addToken, h, C_within, Option.bind_some, if_pos r1, one0, if_false, s1, e1, s2, e2, s3, e3, nI_1]
  rfl
def tkA (a : Mem) (c : Nat) (T : Nat × Nat × Nat × Nat) : Prop := a 77 c = nI T.1 ∧ a 78 c = nI T.2.1 ∧ a 79 c = nI T.2.2.1
def RSt (a a' : Mem) (c : Nat) (L : List (Nat × Nat × Nat × Nat)) : Prop := (∀ x, x ≠ 76 → x ≠ 77 → x ≠ 78 → x ≠ 79 → a' x = a x) ∧ (∀ k, k ≠ 3 → a' 76 k = a 76 k) ∧ a' 76 3 = nI (c + L.length) ∧ (∀ j, j < c → a' 77 j = a 77 j ∧ a' 78 j = a 78 j ∧ a' 79 j = a 79 j) ∧ ∀ j, j < L.length → tkA a' (c + j) (L.getD j (0, 0, 0, 0))
theorem RSt_nil {a : Mem} {c : Nat} (h : a 76 3 = nI c) : RSt a a c [] := ⟨fun _ _ _ _ _ => rfl, fun _ _ => rfl, h, fun _ _ => ⟨rfl, rfl, rfl⟩, fun j hj => absurd hj (Nat.not_lt_zero j)⟩
theorem ad_o {a : Mem} {c : Nat} {T : Nat × Nat × Nat × Nat} {x : Nat} (h1 : x ≠ 76) (h2 : x ≠ 77) (h3 : x ≠ 78) (h4 : x ≠ 79) : adM a c T x = a x := by
  unfold adM
  rw [mw_o h1, mw_o h4, mw_o h3, mw_o h2]
theorem ad_n {a : Mem} {c : Nat} {T : Nat × Nat × Nat × Nat} {j : Nat} (h : j ≠ c) : adM a c T 77 j = a 77 j ∧ adM a c T 78 j = a 78 j ∧ adM a c T 79 j = a 79 j := by
  unfold adM
  refine ⟨?_, ?_, ?_⟩
  · simp [mw, h]
  · simp [mw, h]
  · simp [mw, h]
theorem ad_s {a : Mem} {c : Nat} {T : Nat × Nat × Nat × Nat} : tkA (adM a c T) c T ∧ adM a c T 76 3 = nI (c + 1) := by
  unfold adM tkA
  refine ⟨⟨?_, ?_, ?_⟩, ?_⟩
  · simp [mw]
  · simp [mw]
  · simp [mw]
  · simp [mw]
theorem ad_76 {a : Mem} {c : Nat} {T : Nat × Nat × Nat × Nat} {k : Nat} (h : k ≠ 3) : adM a c T 76 k = a 76 k := by
  unfold adM
  simp [mw, h]
theorem RSt_cons {a a' : Mem} {c : Nat} {T : Nat × Nat × Nat × Nat} {L : List (Nat × Nat × Nat × Nat)} (h : RSt (adM a c T) a' (c + 1) L) : RSt a a' c (T :: L) := by
  obtain ⟨h1, h2, h3, h4, h5⟩ := h
  refine ⟨fun x x1 x2 x3 x4 => (h1 x x1 x2 x3 x4).trans (ad_o x1 x2 x3 x4), fun k hk => (h2 k hk).trans (ad_76 hk), ?_, fun j hj => ?_, fun j hj => ?_⟩
  · rw [h3, List.length_cons]
    congr 1
    omega
  · obtain ⟨k1, k2, k3⟩ := h4 j (by omega)
    obtain ⟨m1, m2, m3⟩ := ad_n (a := a) (c := c) (T := T) (show j ≠ c by omega)
    exact ⟨k1.trans m1, k2.trans m2, k3.trans m3⟩
  · cases j with
    | zero =>
      obtain ⟨k1, k2, k3⟩ := h4 c (by omega)
      obtain ⟨⟨m1, m2, m3⟩, -⟩ := ad_s (a := a) (c := c) (T := T)
      exact ⟨k1.trans m1, k2.trans m2, k3.trans m3⟩
    | succ j =>
      rw [List.length_cons] at hj
      have := h5 j (by omega)
      rw [show c + 1 + j = c + (j + 1) by omega] at this
      exact this
/-- the tokens from a place on -/
def tkz (t : Nat → Nat) (n : Nat) : Nat → Nat → List (Nat × Nat × Nat × Nat)
  | 0, _ => []
  | q + 1, i => if n ≤ i then [(66, 0, n, n)] else if ltB (t i) = true then (kwN t i (runT ltB t n (n - (i + 1)) (i + 1)), 0, i, runT ltB t n (n - (i + 1)) (i + 1)) :: tkz t n q (runT ltB t n (n - (i + 1)) (i + 1)) else if dgB (t i) = true then ((if runT dgB t n (n - (i + 1)) (i + 1) - i ≤ 4 then 64 else 65), vlT t (if runT dgB t n (n - (i + 1)) (i + 1) - i ≤ 4 then runT dgB t n (n - (i + 1)) (i + 1) - i else 4) i 0, i, runT dgB t n (n - (i + 1)) (i + 1)) :: tkz t n q (runT dgB t n (n - (i + 1)) (i + 1)) else if blB (t i) = true then tkz t n q (i + 1) else ((if sgB (t i) = true then t i else 65), 0, i, i + 1) :: tkz t n q (i + 1)
theorem s33 {a : Mem} {t : Nat → Nat} {n i : Nat} {k19 : Int32 → Int32 → Mem → Option (Int32 × Mem)} (hT : TP a t n) : ∀ (q j fu : Nat), j + q = n → q < fu → F_P_split_33 k19 fu (nI n) (nI i) (nI j) a = (F_P_keyword (nI i) (nI (runT ltB t n q j)) a).bind fun z1 => (F_P_addToken z1.1 0 (nI i) z1.2).bind fun z2 => k19 (nI n) (nI (runT ltB t n q j)) z2.2 := by
  have n4 := hT.1
  intro q
  induction q with
  | zero =>
    intro j fu hj hfu
    obtain ⟨fu, rfl⟩ : ∃ k, fu = k + 1 := ⟨fu - 1, by omega⟩
    rw [F_P_split_33, if_pos (nI_le (show n ≤ j by omega) (by omega))]
    rfl
  | succ q ih =>
    intro j fu hj hfu
    obtain ⟨fu, rfl⟩ : ∃ k, fu = k + 1 := ⟨fu - 1, by omega⟩
    obtain ⟨t1, t2⟩ := hT.2 j (by omega)
    have lv : ld a 75 (nI j) = some (nI (t j)) := (ld_in rfl (show j < 400 by omega) (by decide)).trans (congrArg some t1)
    have er : runT ltB t n (q + 1) j = if j < n ∧ ltB (t j) = true then runT ltB t n q (j + 1) else j := rfl
    rw [F_P_split_33, if_neg (nI_ge (show j < n by omega) (by omega)), lv, er]
    simp only [Option.bind_some, P_isLetter t2, b01]
    by_cases c : ltB (t j) = true
    · rw [if_neg (fun k => k c), if_pos ⟨by omega, c⟩, nI_1]
      exact ih (j + 1) fu (by omega) (by omega)
    · rw [if_pos c, if_neg (fun k => c k.2)]
theorem s55 {a : Mem} {t : Nat → Nat} {n i : Nat} {k19 : Int32 → Int32 → Mem → Option (Int32 × Mem)} (hT : TP a t n) (hi : i < n) (hdi : dgB (t i) = true) : ∀ (q j fu : Nat), j + q = n → q < fu → i < j → (∀ k, i ≤ k → k < j → dgB (t k) = true) → F_P_split_55 k19 fu (nI n) (nI i) (nI j) a = (F_P_addToken (nI (if runT dgB t n q j - i ≤ 4 then 64 else 65)) (nI (vlT t (if runT dgB t n q j - i ≤ 4 then runT dgB t n q j - i else 4) i 0)) (nI i) a).bind fun z => k19 (nI n) (nI (runT dgB t n q j)) z.2 := by
  have n4 := hT.1
  have fin : ∀ to, i < to → to ≤ n → (∀ k, i ≤ k → k < to → dgB (t k) = true) → (if 4 < (nI to - nI i) then (F_JM_min (nI to) (nI i + 4) a).bind fun z1 => (F_P_valueOf (nI i) z1.1 z1.2).bind fun z2 => (F_P_addToken 65 z2.1 (nI i) z2.2).bind fun z3 => k19 (nI n) (nI to) z3.2 else (F_JM_min (nI to) (nI i + 4) a).bind fun z4 => (F_P_valueOf (nI i) z4.1 z4.2).bind fun z5 => (F_P_addToken 64 z5.1 (nI i) z5.2).bind fun z6 => k19 (nI n) (nI to) z6.2) = (F_P_addToken (nI (if to - i ≤ 4 then 64 else 65)) (nI (vlT t (if to - i ≤ 4 then to - i else 4) i 0)) (nI i) a).bind fun z => k19 (nI n) (nI to) z.2 := fun to h1 h2 hd => by
    have e4 : nI i + 4 = nI (i + 4) := nI_add i 4
    have em := nmn (x := to) (y := i + 4) (by omega) (by omega) a
    rw [n_sub (by omega), e4]
    by_cases c : to - i ≤ 4
    · have m1 : mn to (i + 4) = to := if_neg (by omega)
      rw [m1] at em
      have vo := vo_p hT h2 (Nat.le_of_lt h1) hd
      rw [if_neg (show ¬ (4 : Int32) < nI (to - i) from nI_nlt (b := to - i) (a := 4) c (by decide)), if_pos c, if_pos c, em]
      simp only [Option.bind_some, vo]
      rfl
    · have m1 : mn to (i + 4) = i + 4 := if_pos (by omega)
      rw [m1] at em
      have vo := vo_p (to := i + 4) hT (by omega) (by omega) (fun k k1 k2 => hd k k1 (by omega))
      rw [show i + 4 - i = 4 by omega] at vo
      rw [if_pos (show (4 : Int32) < nI (to - i) from nI_lt (a := 4) (by omega) (by omega)), if_neg c, if_neg c, em]
      simp only [Option.bind_some, vo]
      rfl
  intro q
  induction q with
  | zero =>
    intro j fu hj hfu hij hd
    obtain ⟨fu, rfl⟩ : ∃ k, fu = k + 1 := ⟨fu - 1, by omega⟩
    rw [F_P_split_55, if_pos (nI_le (show n ≤ j by omega) (by omega))]
    exact fin j hij (by omega) hd
  | succ q ih =>
    intro j fu hj hfu hij hd
    obtain ⟨fu, rfl⟩ : ∃ k, fu = k + 1 := ⟨fu - 1, by omega⟩
    obtain ⟨t1, t2⟩ := hT.2 j (by omega)
    have lv : ld a 75 (nI j) = some (nI (t j)) := (ld_in rfl (show j < 400 by omega) (by decide)).trans (congrArg some t1)
    rw [F_P_split_55, if_neg (nI_ge (show j < n by omega) (by omega)), lv]
    simp only [Option.bind_some, P_isDigit t2, b01]
    by_cases c : dgB (t j) = true
    · have er : runT dgB t n (q + 1) j = runT dgB t n q (j + 1) := if_pos ⟨by omega, c⟩
      rw [if_neg (fun k => k c), er, nI_1]
      refine ih (j + 1) fu (by omega) (by omega) (by omega) (fun k k1 k2 => ?_)
      by_cases ck : k = j
      · rw [ck]; exact c
      · exact hd k k1 (by omega)
    · have er : runT dgB t n (q + 1) j = j := if_neg (fun k => c k.2)
      rw [if_pos c, er]
      exact fin j hij (by omega) hd
theorem TP_ad {a : Mem} {t : Nat → Nat} {n c : Nat} {T : Nat × Nat × Nat × Nat} (h : TP a t n) : TP (adM a c T) t n := by
  unfold TP
  rw [ad_o (by decide) (by decide) (by decide) (by decide)]
  exact h
theorem sp19 {t : Nat → Nat} {n : Nat} : ∀ (q i fu : Nat) (a : Mem) (c : Nat), n < i + q → q ≤ fu → i ≤ n → TP a t n → a 76 3 = nI c → c + (n - i) ≤ 400 → ∃ a', F_P_split_19 fu (nI n) (nI i) a = some (0, a') ∧ RSt a a' c (tkz t n q i) := by
  intro q
  induction q with
  | zero => intro i fu a c h1 _ h2; omega
  | succ q ih =>
    intro i fu a c h1 hfu hi hT hc hb
    obtain ⟨fu, rfl⟩ : ∃ k, fu = k + 1 := ⟨fu - 1, by omega⟩
    have n4 := hT.1
    have ez : tkz t n (q + 1) i = if n ≤ i then [(66, 0, n, n)] else if ltB (t i) = true then (kwN t i (runT ltB t n (n - (i + 1)) (i + 1)), 0, i, runT ltB t n (n - (i + 1)) (i + 1)) :: tkz t n q (runT ltB t n (n - (i + 1)) (i + 1)) else if dgB (t i) = true then ((if runT dgB t n (n - (i + 1)) (i + 1) - i ≤ 4 then 64 else 65), vlT t (if runT dgB t n (n - (i + 1)) (i + 1) - i ≤ 4 then runT dgB t n (n - (i + 1)) (i + 1) - i else 4) i 0, i, runT dgB t n (n - (i + 1)) (i + 1)) :: tkz t n q (runT dgB t n (n - (i + 1)) (i + 1)) else if blB (t i) = true then tkz t n q (i + 1) else ((if sgB (t i) = true then t i else 65), 0, i, i + 1) :: tkz t n q (i + 1) := rfl
    rw [ez, F_P_split_19]
    by_cases cn : n ≤ i
    · rw [if_pos cn, if_pos (nI_le cn (by omega))]
      have ad := adE (66, 0, n, n) hc (by omega)
      have ad : F_P_addToken 66 0 (nI n) a = some (0, adM a c (66, 0, n, n)) := ad
      rw [ad]
      exact ⟨_, rfl, RSt_cons (RSt_nil ad_s.2)⟩
    · rw [if_neg cn, if_neg (nI_ge (show i < n by omega) (by omega))]
      obtain ⟨t1, t2⟩ := hT.2 i (by omega)
      have lv : ld a 75 (nI i) = some (nI (t i)) := (ld_in rfl (show i < 400 by omega) (by decide)).trans (congrArg some t1)
      have cls := cls_256 (t i) t2
      have more : ∀ (T : Nat × Nat × Nat × Nat) (to : Nat), i < to → to ≤ n → ∃ a', F_P_split_19 fu (nI n) (nI to) (adM a c T) = some (0, a') ∧ RSt a a' c (T :: tkz t n q to) := fun T to k1 k2 => by
        obtain ⟨a', y1, y2⟩ := ih to fu (adM a c T) (c + 1) (by omega) (by omega) k2 (TP_ad hT) ad_s.2 (by omega)
        exact ⟨a', y1, RSt_cons y2⟩
      rw [lv]
      simp only [Option.bind_some, P_isLetter t2, P_isDigit t2, P_isSign t2, b01]
      by_cases cl : ltB (t i) = true
      · rw [if_neg (fun k => k cl), if_pos cl, nI_1, s33 hT (n - (i + 1)) (i + 1) gF (by omega) (by rw [gF_eq]; omega)]
        have rb := rn_b (p := ltB) (t := t) (n := n) (n - (i + 1)) (i + 1) (by omega)
        generalize runT ltB t n (n - (i + 1)) (i + 1) = to at rb ⊢
        rw [kw_c hT rb.2 (by omega)]
        simp only [Option.bind_some]
        have ad : F_P_addToken (nI (kwN t i to)) 0 (nI i) a = some (0, adM a c (kwN t i to, 0, i, to)) := adE (kwN t i to, 0, i, to) hc (by omega)
        rw [ad]
        simp only [Option.bind_some]
        exact more _ to (by omega) rb.2
      · rw [if_pos cl, if_neg cl]
        by_cases cd : dgB (t i) = true
        · rw [if_neg (fun k => k cd), if_pos cd, nI_1, s55 hT (by omega) cd (n - (i + 1)) (i + 1) gF (by omega) (by rw [gF_eq]; omega) (by omega) (fun k k1 k2 => by rw [show k = i by omega]; exact cd)]
          have rb := rn_b (p := dgB) (t := t) (n := n) (n - (i + 1)) (i + 1) (by omega)
          generalize runT dgB t n (n - (i + 1)) (i + 1) = to at rb ⊢
          have ad := adE ((if to - i ≤ 4 then 64 else 65), vlT t (if to - i ≤ 4 then to - i else 4) i 0, i, to) hc (by omega)
          have ad : F_P_addToken (nI (if to - i ≤ 4 then 64 else 65)) (nI (vlT t (if to - i ≤ 4 then to - i else 4) i 0)) (nI i) a = some (0, adM a c ((if to - i ≤ 4 then 64 else 65), vlT t (if to - i ≤ 4 then to - i else 4) i 0, i, to)) := ad
          rw [ad]
          simp only [Option.bind_some]
          exact more _ to (by omega) rb.2
        · rw [if_pos cd, if_neg cd]
          have skip : ∃ a', F_P_split_19 fu (nI n) (nI (i + 1)) a = some (0, a') ∧ RSt a a' c (tkz t n q (i + 1)) := ih (i + 1) fu a c (by omega) (by omega) (by omega) hT hc (by omega)
          by_cases c32 : t i = 32
          · rw [if_pos (cls.2.2.2.2.1.mpr c32), if_pos (show blB (t i) = true by unfold blB; rw [decide_eq_true c32]; rfl), nI_1]
            exact skip
          · rw [if_neg (fun k => c32 (cls.2.2.2.2.1.mp k))]
            by_cases c10 : t i = 10
            · rw [if_pos (cls.2.2.2.2.2.mpr c10), if_pos (show blB (t i) = true by unfold blB; rw [decide_eq_true c10, Bool.or_true]), nI_1]
              exact skip
            · rw [if_neg (fun k => c10 (cls.2.2.2.2.2.mp k)), if_neg (show ¬ blB (t i) = true by unfold blB; rw [decide_eq_false c32, decide_eq_false c10]; decide), nI_1]
              by_cases cs : sgB (t i) = true
              · rw [if_neg (fun k => k cs), if_pos cs]
                have ad : F_P_addToken (nI (t i)) 0 (nI i) a = some (0, adM a c (t i, 0, i, i + 1)) := adE (t i, 0, i, i + 1) hc (by omega)
                rw [ad]
                simp only [Option.bind_some]
                exact more _ (i + 1) (by omega) (by omega)
              · rw [if_pos cs, if_neg cs]
                have ad : F_P_addToken 65 0 (nI i) a = some (0, adM a c (65, 0, i, i + 1)) := adE (65, 0, i, i + 1) hc (by omega)
                rw [ad]
                simp only [Option.bind_some]
                exact more _ (i + 1) (by omega) (by omega)
theorem spl_p {a : Mem} {t : Nat → Nat} {n : Nat} (hT : TP a t n) : ∃ a', F_P_split (nI n) a = some (0, a') ∧ RSt (mw (mw (mw (mw a 76 3 0) 76 4 0) 76 6 0) 76 7 (-1)) a' 0 (tkz t n (n + 1) 0) := by
  have n4 := hT.1
  have em := nmn (x := n) (y := 400) (by omega) (by decide) a
  have m1 : mn n 400 = n := if_neg (by omega)
  rw [m1] at em
  have em : F_JM_min (nI n) 400 a = some (nI n, a) := em
  obtain ⟨a', k1, k2⟩ := sp19 (t := t) (n := n) (n + 1) 0 gF (mw (mw (mw (mw a 76 3 0) 76 4 0) 76 6 0) 76 7 (-1)) 0 (by omega) (by rw [gF_eq]; omega) (Nat.zero_le _) (by
    unfold TP
    rw [mw_o (by decide), mw_o (by decide), mw_o (by decide), mw_o (by decide)]
    exact hT) (by simp [mw]; rfl) (by omega)
  refine ⟨a', ?_, k2⟩
  rw [F_P_split, em]
  exact k1
