/-! ===== creaks, wears, of ===== -/
theorem exM_c {op op' ar ar' fa : Nat → Int32} : ∀ (n i : Nat) (st : List Int32), (∀ j, i ≤ j → j < i + n → op j = op' j ∧ ar j = ar' j) → exM op ar fa n i st = exM op' ar' fa n i st
  | 0, _, _, _ => rfl
  | n + 1, i, st, h => by
    obtain ⟨h1, h2⟩ := h i (Nat.le_refl i) (by omega)
    have e : stM op ar fa i st = stM op' ar' fa i st := by
      unfold stM
      rw [h1, h2]
    simp only [exM, e]
    congr 1
    funext t
    exact exM_c n (i + 1) t (fun j a b => h j (by omega) (by omega))
theorem codeEq_c {cc op op' ar ar' : Nat → Int32} {p q p' q' : Nat} (hq : q' ≤ 400) (hpq : p' ≤ q') (h : ∀ j, j < 400 → op j = op' j ∧ ar j = ar' j) (hc : codeEq cc op ar p q p' q') : codeEq cc op' ar' p q p' q' := by
  intro fa
  obtain ⟨v, h1, h2⟩ := hc fa
  refine ⟨v, h1, ?_⟩
  rw [← h2]
  exact (exM_c _ _ _ (fun j a b => h j (by omega))).symm
theorem blt_t {a b : Nat} (h : a < b) : Nat.blt a b = true := Nat.ble_eq_true_of_le h
theorem LwR_t {s t : Mem} (h : LwR (prj s) (prj s)) (he : eqR t s) : LwR s t := by
  obtain ⟨n, hn, e1, e2, e3⟩ := h
  have q132 : t 132 0 = s 132 0 := eqR_at he rfl
  refine ⟨n, hn, e1, q132.trans e2, fun l hl => ?_⟩
  obtain ⟨h9, h9v, p, q1, r, p', q', r', a1, a2, a3, a4, a5, a6, b1, b2, b3, b4, b5, b6, c1, c2, c3⟩ := e3 l hl
  have hl16 : l < 16 := by omega
  have q133 : t 133 l = prj s 133 l := (eqR_at he (show rel 133 l = true from blt_t hl16)).trans (prj_at (show rel 133 l = true from blt_t hl16)).symm
  have q134 : t 134 l = prj s 134 l := (eqR_at he (show rel 134 l = true from blt_t hl16)).trans (prj_at (show rel 134 l = true from blt_t hl16)).symm
  have q135 : t 135 l = prj s 135 l := (eqR_at he (show rel 135 l = true from blt_t hl16)).trans (prj_at (show rel 135 l = true from blt_t hl16)).symm
  have q136 : t 136 l = prj s 136 l := (eqR_at he (show rel 136 l = true from blt_t hl16)).trans (prj_at (show rel 136 l = true from blt_t hl16)).symm
  have qc : ∀ j, j < 400 → prj s 137 j = t 137 j ∧ prj s 138 j = t 138 j := fun j hj => ⟨((eqR_at he (show rel 137 j = true from blt_t hj)).trans (prj_at (show rel 137 j = true from blt_t hj)).symm).symm, ((eqR_at he (show rel 138 j = true from blt_t hj)).trans (prj_at (show rel 138 j = true from blt_t hj)).symm).symm⟩
  exact ⟨q133.trans h9, h9v, p, q1, r, p', q', r', a1, a2, a3, a4, a5, a6, q134.trans b1, q135.trans b2, q136.trans b3, b4, b5, b6, codeEq_c (by omega) b4 qc c1, c2, fun hh => codeEq_c (by omega) b5 qc (c3 hh)⟩
theorem eqR_rp2 {s : Mem} {c d : Nat} {f g : Nat → Int32} (h1 : ∀ k, rel c k = false) (h2 : ∀ k, rel d k = false) : eqR (rp (rp s c f) d g) s := by
  show prj _ = prj s
  rw [prj_rp (fun k hk => by rw [h2 k] at hk; cases hk), prj_rp (fun k hk => by rw [h1 k] at hk; cases hk)]
/-- what the invariant gives of a step: the reference's rows in t, the class's in s -/
theorem men_of {s t : Mem} (h : Inv s) (he : eqR t s) {f i : Nat} (hf : f < nF s) (hi : i < sz s f) : menA s t 2 3 f i ∧ (if t 124 (101 + (16 * f + i)) + t 123 41 ≤ 9 then t 124 (101 + (16 * f + i)) + t 123 41 else 9) = s 3 (96 * 2 + 16 * f + i) := by
  obtain ⟨⟨hHS, hHM, -⟩, -, -, hMR⟩ := h
  obtain ⟨hz, -, -⟩ := HS_c hHS
  obtain ⟨f6, i16, fi⟩ := nF_16 (show szOK (nF s) (sz s) from hz) hf hi
  have q124 : ∀ k, t 124 k = s 124 k := fun k => eqR_at he rfl
  have q128 : ∀ k, t 128 k = s 128 k := fun k => eqR_at he rfl
  refine ⟨⟨fun u hu => ?_, ?_, ?_⟩, ?_⟩
  · rw [q124]
    have := hHM.1 (96 * u + (16 * f + i)) (by omega)
    have this : s 124 (5 + (96 * u + (16 * f + i))) = s 3 (96 + (96 * u + (16 * f + i))) := this
    rw [show 5 + 96 * u + (16 * f + i) = 5 + (96 * u + (16 * f + i)) by omega, this]
    congr 1
    omega
  · rw [q128]
    obtain ⟨q, -, -, h1, h2⟩ := hHS.2.2.2.2 f i ⟨hf, hi⟩
    have h1 : s 3 (16 * f + i) = nI q := h1
    have h2 : s 128 (16 * f + i) = nI q := h2
    rw [h1, h2]
  · rw [q124]
    exact hHM.2.2.2.2.2.1
  · have q41 : t 123 41 = s 123 41 := eqR_at he rfl
    have e41 : s 123 41 = nI 0 := hMR.2.2.2.2.1
    obtain ⟨⟨v, v1, v2⟩, -⟩ := hHM.2.2.1 (16 * f + i) fi
    have v2 : s 3 (192 + (16 * f + i)) = nI v := v2
    have v3 := hHM.1 (96 + (16 * f + i)) (by omega)
    have v3 : s 124 (5 + (96 + (16 * f + i))) = s 3 (96 + (96 + (16 * f + i))) := v3
    rw [q124, q41, e41, show 101 + (16 * f + i) = 5 + (96 + (16 * f + i)) by omega, v3, show 96 + (96 + (16 * f + i)) = 192 + (16 * f + i) by omega, show 96 * 2 + 16 * f + i = 192 + (16 * f + i) by omega, v2, nI_add, Nat.add_zero, if_pos (show nI v ≤ 9 from nI_le (b := 9) v1 (by decide))]
theorem ask_seq {s : Mem} (h : Inv s) {word w st : Int32} (hw : word = 0 ∨ word = 1 ∨ word = 2) {f i : Nat} (hf : f < nF s) (hi : i < sz s f) : ∃ (r : Nat) (s1 : Mem), r ≤ 1000 ∧ F_L_ask word 2 (nI f) (nI i) w st s = some (nI r, s1) ∧ eqR s1 s ∧ ∀ t, eqR t s → ∃ t1, (F_R_asks (nI (16 * f + i)) w st t).bind (fun z => F_R_lawTells word (unW word (z.2 143)) (mostW word) z.2) = some (nI r, t1) ∧ eqR t1 t := by
  have hL := h.1.2.2.2.1
  obtain ⟨hz, -, -⟩ := HS_c h.1.1
  obtain ⟨f6, i16, fi⟩ := nF_16 (show szOK (nF s) (sz s) from hz) hf hi
  have key : ∀ t, eqR t s → ∃ (r : Nat) (ga gb : Nat → Int32), r ≤ 1000 ∧ (word = 1 → r ≤ 99) ∧ (word = 2 → r ≤ 9) ∧ F_L_ask word 2 (nI f) (nI i) w st s = some (nI r, rp (rp s 13 (FC s 2 3 f i w st)) 14 ga) ∧ (F_R_asks (nI (16 * f + i)) w st t).bind (fun z => F_R_lawTells word (unW word (z.2 143)) (mostW word) z.2) = some (nI r, rp (rp t 143 (FM t (16 * f + i) (s 3 (96 * 2 + 16 * f + i)) w st)) 144 gb) := by
    intro t ht
    obtain ⟨m1, m2⟩ := men_of h ht hf hi
    exact ask_pair hw rfl rfl rfl rfl (by decide) (by decide) f6 i16 (LwR_t hL ht) m1 m2
  obtain ⟨r, ga, -, r1, -, -, h1, -⟩ := key s rfl
  refine ⟨r, _, r1, h1, eqR_rp2 (fun _ => rfl) (fun _ => rfl), fun t ht => ?_⟩
  obtain ⟨r', ga', gb', r1', -, -, h1', h2'⟩ := key t ht
  have e : nI r' = nI r := by
    rw [h1] at h1'
    exact (congrArg Prod.fst (Option.some.inj h1')).symm
  rw [e] at h2'
  exact ⟨_, h2', eqR_rp2 (fun _ => rfl) (fun _ => rfl)⟩
theorem eqR_tr {a b c : Mem} (h1 : eqR a b) (h2 : eqR b c) : eqR a c := Eq.trans h1 h2
theorem eqR_0 {s : Mem} {v : Int32} : eqR (mw s 123 0 v) s := prj_mw rfl
theorem mSz_t {s t : Mem} (h : Inv s) (he : eqR t s) : szOK (nF s) (sz s) ∧ cSz s (nF s) (sz s) ∧ mSz t (nF s) (sz s) := by
  obtain ⟨hz, hc, hm⟩ := HS_c h.1.1
  have hm : mSz s (nF s) (sz s) := hm
  exact ⟨hz, hc, ⟨(eqR_at he rfl : t 123 6 = s 123 6).trans hm.1, fun f hf => (eqR_at he rfl : t 127 f = s 127 f).trans (hm.2 f hf)⟩⟩
theorem g_creaks (x y w v : Int32) : Good Inv (F_C_creaks x y w v) (F_R_creaks x y w v) := by
  intro s h
  obtain ⟨hz, hc, hm⟩ := mSz_t h (eqR_0 (s := s) (v := 0))
  rcases C_has2 hz hc x y with ⟨f, i, hf, hi, rfl, rfl, hh⟩ | ⟨hno, hh⟩
  · have hmR := R_isS_y hz hm hf hi
    by_cases h1 : 1 ≤ w ∧ w ≤ 200
    · by_cases h2 : 1 ≤ v ∧ v ≤ 5
      · obtain ⟨r, s1, -, a1, a2, a3⟩ := ask_seq h (word := 0) (w := w) (st := v) (Or.inl rfl) hf hi
        obtain ⟨hz1, hc1, hm1⟩ := mSz_t h (eqR_tr (eqR_0 (s := s1) (v := 0)) a2)
        obtain ⟨t1, b1, b2⟩ := a3 (mw s1 123 0 0) (eqR_tr eqR_0 a2)
        refine ⟨nI r, s1, t1, ?_, ?_, Inv_eq (eqR_tr b2 (eqR_tr eqR_0 a2)) h⟩
        · simp only [F_C_creaks, F_C_asked, hh, Option.bind_some, one0, if_false, F_C_isVisitor, C_within, b01, h1, h2, and_self, not_true_eq_false, a1]
        · simp only [F_R_creaks, F_R_canTread, R_isS_y hz1 hm1 hf hi, Option.bind_some, one0, if_false, R_isIn, b01, h1, h2, and_self, not_true_eq_false, n16, R_creaksOf, b1]
      · refine ⟨-1, s, mw s 123 0 0, ?_, ?_, Inv_t h⟩
        · simp only [F_C_creaks, F_C_asked, hh, Option.bind_some, one0, if_false, F_C_isVisitor, C_within, b01, h1, h2, and_self, not_true_eq_false, not_false_eq_true, if_true]
        · simp only [F_R_creaks, F_R_canTread, hmR, Option.bind_some, one0, if_false, R_isIn, b01, h1, h2, and_self, not_true_eq_false, not_false_eq_true, if_true]
    · refine ⟨-1, s, mw s 123 0 0, ?_, ?_, Inv_t h⟩
      · simp only [F_C_creaks, F_C_asked, hh, Option.bind_some, one0, if_false, F_C_isVisitor, C_within, b01, h1, not_false_eq_true, if_true]
      · simp only [F_R_creaks, F_R_canTread, hmR, Option.bind_some, one0, if_false, R_isIn, b01, h1, not_false_eq_true, if_true]
  · have hmR := R_isS_n hz hm hno
    refine ⟨-1, s, mw s 123 0 0, ?_, ?_, Inv_t h⟩
    · simp only [F_C_creaks, F_C_asked, hh, Option.bind_some, if_true]
    · simp only [F_R_creaks, F_R_canTread, hmR, Option.bind_some, if_true]
theorem g_wears (x y w v : Int32) : Good Inv (F_C_wears x y w v) (F_R_wears x y w v) := by
  intro s h
  obtain ⟨hz, hc, hm⟩ := mSz_t h (eqR_0 (s := s) (v := 0))
  rcases C_has2 hz hc x y with ⟨f, i, hf, hi, rfl, rfl, hh⟩ | ⟨hno, hh⟩
  · have hmR := R_isS_y hz hm hf hi
    by_cases h1 : 1 ≤ w ∧ w ≤ 200
    · by_cases h2 : 1 ≤ v ∧ v ≤ 5
      · obtain ⟨r, s1, -, a1, a2, a3⟩ := ask_seq h (word := 1) (w := w) (st := v) (Or.inr (Or.inl rfl)) hf hi
        obtain ⟨hz1, hc1, hm1⟩ := mSz_t h (eqR_tr (eqR_0 (s := s1) (v := 0)) a2)
        obtain ⟨t1, b1, b2⟩ := a3 (mw s1 123 0 0) (eqR_tr eqR_0 a2)
        refine ⟨nI r, s1, t1, ?_, ?_, Inv_eq (eqR_tr b2 (eqR_tr eqR_0 a2)) h⟩
        · simp only [F_C_wears, F_C_asked, hh, Option.bind_some, one0, if_false, F_C_isVisitor, C_within, b01, h1, h2, and_self, not_true_eq_false, a1]
        · simp only [F_R_wears, F_R_canTread, R_isS_y hz1 hm1 hf hi, Option.bind_some, one0, if_false, R_isIn, b01, h1, h2, and_self, not_true_eq_false, n16, R_wearsOf, b1]
      · refine ⟨-1, s, mw s 123 0 0, ?_, ?_, Inv_t h⟩
        · simp only [F_C_wears, F_C_asked, hh, Option.bind_some, one0, if_false, F_C_isVisitor, C_within, b01, h1, h2, and_self, not_true_eq_false, not_false_eq_true, if_true]
        · simp only [F_R_wears, F_R_canTread, hmR, Option.bind_some, one0, if_false, R_isIn, b01, h1, h2, and_self, not_true_eq_false, not_false_eq_true, if_true]
    · refine ⟨-1, s, mw s 123 0 0, ?_, ?_, Inv_t h⟩
      · simp only [F_C_wears, F_C_asked, hh, Option.bind_some, one0, if_false, F_C_isVisitor, C_within, b01, h1, not_false_eq_true, if_true]
      · simp only [F_R_wears, F_R_canTread, hmR, Option.bind_some, one0, if_false, R_isIn, b01, h1, not_false_eq_true, if_true]
  · have hmR := R_isS_n hz hm hno
    refine ⟨-1, s, mw s 123 0 0, ?_, ?_, Inv_t h⟩
    · simp only [F_C_wears, F_C_asked, hh, Option.bind_some, if_true]
    · simp only [F_R_wears, F_R_canTread, hmR, Option.bind_some, if_true]
theorem N_at {s : Mem} {h0 c l k : Nat} (h1 : kd h0 = 6) (h2 : rf h0 0 = c) (h3 : kd c = 1) (h4 : ln c = 80) (hl : l < 16) (hk : k < 5) : F_N_at h0 (nI l) (nI k) s = some (s c (5 * l + k), s) := by
  have e1 : nI l * 5 + nI k = nI (5 * l + k) := by
    rw [show (5 : Int32) = nI 5 from rfl, n_mul, nI_add, Nat.mul_comm]
  have e2 : 0 ≤ nI (5 * l + k) ∧ nI (5 * l + k) ≤ nI 80 - 1 := (rngF (n := 80) (by decide)).mpr ⟨5 * l + k, by omega, rfl⟩
  simp only [F_N_at, h1, h2, h3, h4, show Nat.beq 6 6 = true from rfl, show Nat.beq 1 1 = true from rfl, Bool.true_or, cond_true, e1, C_within, Option.bind_some, b01, e2, and_self, not_true_eq_false, if_false, one0]
  rw [ld_in h3 (by rw [h4]; omega) (by rw [h4]; decide)]
  rfl
def dHit (s : Mem) (F I l : Nat) : Prop := (s 20 (5 * l) = nI F ∧ s 20 (5 * l + 1) = nI I) ∨ (s 20 (5 * l + 2) = nI F ∧ s 20 (5 * l + 3) = nI I)
theorem do_pair {s t : Mem} {n F I : Nat} (hF : F < 6) (hI : I < 16) (hn : n ≤ 16) (e1 : s 19 1 = nI n) (e2 : t 123 37 = nI n) (hd : ∀ l, l < n → ∃ f i g j, f < 6 ∧ i < 16 ∧ g < 6 ∧ j < 16 ∧ f ≠ g ∧ s 20 (5 * l) = nI f ∧ s 20 (5 * l + 1) = nI i ∧ s 20 (5 * l + 2) = nI g ∧ s 20 (5 * l + 3) = nI j ∧ t 142 (2 * l) = nI (16 * f + i) ∧ t 142 (2 * l + 1) = nI (16 * g + j)) : ∀ (q l c m m' : Nat), l + q = n → q < m → 2 * q < m' → ∃ v, F_G_doorsOf_4 m (nI F) (nI I) (nI c) (nI l) s = some (nI v, s) ∧ F_R_doorsOf_4 m' (nI (16 * F + I)) (nI c) (nI (2 * l)) t = some (nI v, t) := by
  have e2n : (2 : Int32) * nI n = nI (2 * n) := by rw [show (2 : Int32) = nI 2 from rfl, n_mul]
  intro q
  induction q with
  | zero =>
    intro l c m m' hl hm hm'
    obtain ⟨m, rfl⟩ : ∃ k, m = k + 1 := ⟨m - 1, by omega⟩
    obtain ⟨m', rfl⟩ : ∃ k, m' = k + 1 := ⟨m' - 1, by omega⟩
    have : l = n := by omega
    subst this
    refine ⟨c, ?_, ?_⟩
    · simp only [F_G_doorsOf_4, e1, if_pos (nI_le (Nat.le_refl l) (show l < 2 ^ 31 by omega))]
    · simp only [F_R_doorsOf_4, e2, e2n, if_pos (nI_le (Nat.le_refl (2 * l)) (show 2 * l < 2 ^ 31 by omega))]
  | succ q ih =>
    intro l c m m' hl hm hm'
    obtain ⟨m, rfl⟩ : ∃ k, m = k + 1 := ⟨m - 1, by omega⟩
    obtain ⟨m', rfl⟩ : ∃ k, m' = k + 1 + 1 := ⟨m' - 2, by omega⟩
    obtain ⟨f, i, g, j, b1, b2, b3, b4, fg, d1, d2, d3, d4, d5, d6⟩ := hd l (by omega)
    have a0 : F_N_at 19 (nI l) 0 s = some (nI f, s) := (N_at (c := 20) (k := 0) rfl rfl rfl rfl (by omega) (by decide)).trans (by rw [Nat.add_zero, d1])
    have a1 : F_N_at 19 (nI l) 1 s = some (nI i, s) := (N_at (c := 20) (k := 1) rfl rfl rfl rfl (by omega) (by decide)).trans (by rw [d2])
    have a2 : F_N_at 19 (nI l) 2 s = some (nI g, s) := (N_at (c := 20) (k := 2) rfl rfl rfl rfl (by omega) (by decide)).trans (by rw [d3])
    have a3 : F_N_at 19 (nI l) 3 s = some (nI j, s) := (N_at (c := 20) (k := 3) rfl rfl rfl rfl (by omega) (by decide)).trans (by rw [d4])
    have m0 : ld t 142 (nI (2 * l)) = some (nI (16 * f + i)) := (ld_in rfl (show 2 * l < 64 by omega) (by decide)).trans (congrArg some d5)
    have m1 : ld t 142 (nI (2 * l + 1)) = some (nI (16 * g + j)) := (ld_in rfl (show 2 * l + 1 < 64 by omega) (by decide)).trans (congrArg some d6)
    have z0 : ∀ x : Int32, x + 0 = x := fun x => Int32.add_zero x
    have x1 : (nI f = nI F) ↔ f = F := nI_eq (by omega) (by omega)
    have x2 : (nI i = nI I) ↔ i = I := nI_eq (by omega) (by omega)
    have x3 : (nI g = nI F) ↔ g = F := nI_eq (by omega) (by omega)
    have x4 : (nI j = nI I) ↔ j = I := nI_eq (by omega) (by omega)
    have x5 : (nI (16 * f + i) = nI (16 * F + I)) ↔ (f = F ∧ i = I) := by rw [nI_eq (by omega) (by omega)]; omega
    have x6 : (nI (16 * g + j) = nI (16 * F + I)) ↔ (g = F ∧ j = I) := by rw [nI_eq (by omega) (by omega)]; omega
    have hC : F_G_doorsOf_4 (m + 1) (nI F) (nI I) (nI c) (nI l) s = F_G_doorsOf_4 m (nI F) (nI I) (nI (c + if (f = F ∧ i = I) ∨ (g = F ∧ j = I) then 1 else 0)) (nI (l + 1)) s := by
      simp only [F_G_doorsOf_4, e1, if_neg (nI_ge (show l < n by omega) (show n < 2 ^ 31 by omega)), a0, a1, a2, a3, Option.bind_some, x1, x2, x3, x4, z0, nI_1]
      by_cases c1 : f = F
      · by_cases c2 : i = I
        · have c3 : ¬ g = F := fun z => fg (c1.trans z.symm)
          simp [c1, c2, c3]
        · have c3 : ¬ g = F := fun z => fg (c1.trans z.symm)
          simp [c1, c2, c3]
      · by_cases c3 : g = F
        · by_cases c4 : j = I
          · simp [c1, c3, c4]
          · simp [c1, c3, c4]
        · simp [c1, c3]
    have hM : F_R_doorsOf_4 (m' + 1 + 1) (nI (16 * F + I)) (nI c) (nI (2 * l)) t = F_R_doorsOf_4 m' (nI (16 * F + I)) (nI (c + if (f = F ∧ i = I) ∨ (g = F ∧ j = I) then 1 else 0)) (nI (2 * (l + 1))) t := by
      rw [F_R_doorsOf_4]
      simp only [e2, e2n, if_neg (nI_ge (show 2 * l < 2 * n by omega) (show 2 * n < 2 ^ 31 by omega)), m0, Option.bind_some, x5, nI_1]
      have n1 : ¬ nI (2 * n) ≤ nI (2 * l + 1) := nI_ge (by omega) (by omega)
      rw [show 2 * (l + 1) = 2 * l + 1 + 1 by omega]
      by_cases c1 : f = F ∧ i = I
      · have c3 : ¬ (g = F ∧ j = I) := fun z => fg (c1.1.trans z.1.symm)
        rw [if_pos c1, if_pos (Or.inl c1), F_R_doorsOf_4]
        simp only [e2, e2n, if_neg n1, m1, Option.bind_some, x6, if_neg c3, nI_1]
      · rw [if_neg c1, F_R_doorsOf_4]
        simp only [e2, e2n, if_neg n1, m1, Option.bind_some, x6, nI_1]
        by_cases c3 : g = F ∧ j = I
        · rw [if_pos c3, if_pos (Or.inr c3)]
        · rw [if_neg c3, if_neg (fun z => z.elim c1 c3)]
          rfl
    obtain ⟨v, v1, v2⟩ := ih (l + 1) (c + if (f = F ∧ i = I) ∨ (g = F ∧ j = I) then 1 else 0) m m' (by omega) (by omega) (by omega)
    exact ⟨v, hC.trans v1, hM.trans v2⟩
theorem g_of (x y w : Int32) : Good Inv (F_C_of x y w) (F_R_of x y w) := by
  intro s h
  obtain ⟨hz, hc, hm⟩ := mSz_t h (eqR_0 (s := s) (v := 0))
  rcases C_has2 hz hc x y with ⟨f, i, hf, hi, rfl, rfl, hh⟩ | ⟨hno, hh⟩
  · obtain ⟨f6, i16, fi⟩ := nF_16 hz hf hi
    have hmR := R_isS_y hz hm hf hi
    obtain ⟨⟨hHS, hHM, hBR, hLw, hOr, hVi, hDo, hTR⟩, -⟩ := id h
    by_cases hw : 0 ≤ w ∧ w ≤ 9
    · obtain ⟨k, hk, rfl⟩ := in_nI (m := 9) (by decide) hw
      have k8 : (nI k = 8) ↔ k = 8 := nI_eq (b := 8) (by omega) (by decide)
      have k9 : (nI k = 9) ↔ k = 9 := nI_eq (b := 9) (by omega) (by decide)
      have k0 : (nI k = 0) ↔ k = 0 := nI_eq (b := 0) (by omega) (by decide)
      have k17 : (1 ≤ nI k ∧ nI k ≤ 7) ↔ (1 ≤ k ∧ k ≤ 7) := by
        rw [show (1 : Int32) = nI 1 from rfl, show (7 : Int32) = nI 7 from rfl, nI_leI (by decide) (by omega), nI_leI (by omega) (by decide)]
      by_cases e8 : k = 8
      · subst e8
        obtain ⟨r, s1, -, a1, a2, a3⟩ := ask_seq h (word := 2) (w := 0) (st := 0) (Or.inr (Or.inr rfl)) hf hi
        obtain ⟨hz1, hc1, hm1⟩ := mSz_t h (eqR_tr (eqR_0 (s := s1) (v := 0)) a2)
        obtain ⟨t1, b1, b2⟩ := a3 (mw s1 123 0 0) (eqR_tr eqR_0 a2)
        refine ⟨nI r, s1, t1, ?_, ?_, Inv_eq (eqR_tr b2 (eqR_tr eqR_0 a2)) h⟩
        · simp only [F_C_of, hh, Option.bind_some, one0, if_false, C_within, b01, hw, and_self, not_true_eq_false, show (nI 8 = 8) = True from by decide, if_true, a1]
        · simp only [F_R_of, R_isS_y hz1 hm1 hf hi, Option.bind_some, one0, if_false, show (nI 8 = 0) = False from by decide, R_isIn, b01, k17, show ¬ (1 ≤ 8 ∧ 8 ≤ 7) from by decide, not_false_eq_true, if_true, show (nI 8 = 8) = True from by decide, n16, R_risesOf, b1]
      · by_cases e9 : k = 9
        · subst e9
          obtain ⟨n, hn, d1, d2, d3⟩ := hDo
          have hd : ∀ l, l < n → ∃ f i g j, f < 6 ∧ i < 16 ∧ g < 6 ∧ j < 16 ∧ f ≠ g ∧ s 20 (5 * l) = nI f ∧ s 20 (5 * l + 1) = nI i ∧ s 20 (5 * l + 2) = nI g ∧ s 20 (5 * l + 3) = nI j ∧ (mw s 123 0 0) 142 (2 * l) = nI (16 * f + i) ∧ (mw s 123 0 0) 142 (2 * l + 1) = nI (16 * g + j) := by
            intro l hl
            obtain ⟨f, i, g, j, p1, p2, p3, p4, p5, p6, p7, p8, p9⟩ := d3 l hl
            obtain ⟨u1, u2, -⟩ := nF_16 hz p1.1 p1.2
            obtain ⟨u3, u4, -⟩ := nF_16 hz p2.1 p2.2
            have r1 : rel 142 (2 * l) = true := blt_t (show 2 * l < 32 by omega)
            have r2 : rel 142 (2 * l + 1) = true := blt_t (show 2 * l + 1 < 32 by omega)
            rw [prj_at r1] at p8
            rw [prj_at r2] at p9
            exact ⟨f, i, g, j, u1, u2, u3, u4, p3, p4, p5, p6, p7, p8, p9⟩
          obtain ⟨v, v1, v2⟩ := do_pair (s := s) (t := mw s 123 0 0) f6 i16 hn d1 d2 hd n 0 0 gF gF (Nat.zero_add n) (by rw [gF_eq]; omega) (by rw [gF_eq]; omega)
          have v1' : F_G_doorsOf (nI f) (nI i) s = some (nI v, s) := v1
          have v2' : F_R_doorsOf (nI (16 * f + i)) (mw s 123 0 0) = some (nI v, mw s 123 0 0) := v2
          refine ⟨nI v, s, mw s 123 0 0, ?_, ?_, Inv_t h⟩
          · simp only [F_C_of, hh, Option.bind_some, one0, if_false, C_within, b01, hw, and_self, not_true_eq_false, show (nI 9 = 8) = False from by decide, show (nI 9 = 9) = True from by decide, if_true, v1']
          · simp only [F_R_of, hmR, Option.bind_some, one0, if_false, show (nI 9 = 0) = False from by decide, R_isIn, b01, k17, show ¬ (1 ≤ 9 ∧ 9 ≤ 7) from by decide, not_false_eq_true, if_true, show (nI 9 = 8) = False from by decide, show (nI 9 = 9) = True from by decide, n16, v2']
        · have hg := H_get (s := s) (h0 := 2) (c := 3) (t := k) rfl rfl rfl rfl (by omega) f6 i16
          refine ⟨s 3 (96 * k + 16 * f + i), s, mw s 123 0 0, ?_, ?_, Inv_t h⟩
          · simp only [F_C_of, hh, Option.bind_some, one0, if_false, C_within, b01, hw, and_self, not_true_eq_false, k8, k9, e8, e9, hg]
          · by_cases e0 : k = 0
            · subst e0
              have l1 : ld (mw s 123 0 0) 128 (nI (16 * f + i)) = some (s 128 (16 * f + i)) := ld_in rfl (show 16 * f + i < 96 from fi) (by decide)
              simp only [F_R_of, hmR, Option.bind_some, one0, if_false, show (nI 0 = 0) = True from by decide, if_true, n16, l1]
              obtain ⟨q, -, -, h1, h2⟩ := hHS.2.2.2.2 f i ⟨hf, hi⟩
              have h1 : s 3 (16 * f + i) = nI q := h1
              have h2 : s 128 (16 * f + i) = nI q := h2
              rw [h2, Nat.mul_zero, Nat.zero_add, h1]
            · have hk17 : 1 ≤ k ∧ k ≤ 7 := by omega
              have en : (5 : Int32) + 96 * (nI k - 1) + nI (16 * f + i) = nI (5 + (96 * (k - 1) + (16 * f + i))) := by
                rw [show nI k - 1 = nI (k - 1) from n_sub (b := 1) (by omega), show (96 : Int32) = nI 96 from rfl, n_mul, show (5 : Int32) = nI 5 from rfl, nI_add, nI_add, Nat.add_assoc]
              have l1 : ld (mw s 123 0 0) 124 (nI (5 + (96 * (k - 1) + (16 * f + i)))) = some (s 124 (5 + (96 * (k - 1) + (16 * f + i)))) := ld_in rfl (show 5 + (96 * (k - 1) + (16 * f + i)) < 773 by omega) (by decide)
              simp only [F_R_of, hmR, Option.bind_some, one0, if_false, k0, e0, R_isIn, b01, k17, hk17, and_self, not_true_eq_false, n16, en, l1]
              have := hHM.1 (96 * (k - 1) + (16 * f + i)) (by omega)
              have this : s 124 (5 + (96 * (k - 1) + (16 * f + i))) = s 3 (96 + (96 * (k - 1) + (16 * f + i))) := this
              rw [this, show 96 + (96 * (k - 1) + (16 * f + i)) = 96 * k + 16 * f + i by omega]
    · refine ⟨-1, s, mw s 123 0 0, ?_, ?_, Inv_t h⟩
      · simp only [F_C_of, hh, Option.bind_some, one0, if_false, C_within, b01, hw, not_false_eq_true, if_true]
      · have n0 : ¬ w = 0 := fun q => hw (by rw [q]; decide)
        have n8 : ¬ w = 8 := fun q => hw (by rw [q]; decide)
        have n9 : ¬ w = 9 := fun q => hw (by rw [q]; decide)
        have n17 : ¬ (1 ≤ w ∧ w ≤ 7) := fun q => hw ⟨by have := q.1; rw [fa_le] at this ⊢; exact Int.le_trans (by decide) this, by have := q.2; rw [fa_le] at this ⊢; exact Int.le_trans this (by decide)⟩
        simp only [F_R_of, hmR, Option.bind_some, one0, if_false, if_neg n0, R_isIn, b01, n17, not_false_eq_true, if_true, if_neg n8, if_neg n9]
  · have hmR := R_isS_n hz hm hno
    refine ⟨-1, s, mw s 123 0 0, ?_, ?_, Inv_t h⟩
    · simp only [F_C_of, hh, Option.bind_some, if_true]
    · simp only [F_R_of, hmR, Option.bind_some, if_true]
