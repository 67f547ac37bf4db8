/-! ===== signs ===== -/
def eqV (t s : Mem) : Prop := ∀ c, c ≠ 149 → t c = s c
theorem plC {r v i : Nat} {s : Mem} (hr : r < 10000) (hi : i < 4) (hv : r / 10 ^ i % 10 = v) (hinj : ∀ j, j < 4 → r / 10 ^ j % 10 = v → j = i) : ∀ (q k m : Nat), k + q = 3 → q < m → k ≤ i → F_D_placeOf_4 m (nI v) (nI (r / 10 ^ k)) (nI (3 - k)) s = some (nI (3 - i), s) := by
  intro q
  induction q with
  | zero =>
    intro k m hk hm hki
    obtain ⟨m, rfl⟩ : ∃ m', m = m' + 1 := ⟨m - 1, by omega⟩
    have e1 : k = 3 := by omega
    have e2 : i = 3 := by omega
    subst e1
    subst e2
    simp only [F_D_placeOf_4, if_pos (show nI (3 - 3) ≤ 0 from by decide)]
    rfl
  | succ q ih =>
    intro k m hk hm hki
    obtain ⟨m, rfl⟩ : ∃ m', m = m' + 1 := ⟨m - 1, by omega⟩
    have hq : r / 10 ^ k < 2 ^ 31 := Nat.lt_of_le_of_lt (Nat.div_le_self _ _) (by omega)
    have e1 : irm (nI (r / 10 ^ k)) 10 = nI (r / 10 ^ k % 10) := n_irmL hq (by decide) (by decide) rfl
    have e2 : nI (r / 10 ^ k) / 10 = nI (r / 10 ^ (k + 1)) := by rw [n_divL hq (b := 10) (y := 10) (by decide) (by decide) rfl, dg_ne]
    have c1 : ¬ nI (3 - k) ≤ 0 := nI_ge (b := 3 - k) (a := 0) (by omega) (by omega)
    have hm10 : r / 10 ^ k % 10 < 10 := Nat.mod_lt _ (by decide)
    have hv10 : v < 10 := by rw [← hv]; exact Nat.mod_lt _ (by decide)
    have e3 : (nI (r / 10 ^ k % 10) = nI v) ↔ r / 10 ^ k % 10 = v := nI_eq (by omega) (by omega)
    by_cases c : r / 10 ^ k % 10 = v
    · have := hinj k (by omega) c
      subst this
      simp only [F_D_placeOf_4, if_neg c1, e1, if_pos (e3.mpr c)]
    · have hne : k ≠ i := fun q => c (by rw [q]; exact hv)
      have e4 : nI (3 - k) + (-1) = nI (3 - (k + 1)) := by
        rw [m1_add, show 3 - k = 3 - (k + 1) + 1 by omega]
        exact nI_pred _
      simp only [F_D_placeOf_4, if_neg c1, e1, if_neg (fun q => c (e3.mp q)), e2, e4]
      exact ih (k + 1) m (by omega) (by omega) (by omega)
theorem plM {r x y ix iy : Nat} {x3 x4 : Int32} {k : Int32 → Int32 → Int32 → Int32 → Mem → Option (Int32 × Mem)} (hr : r < 10000) (hD : ∀ j, j < 4 → r / 10 ^ j % 10 < 4) (hinj : ∀ i j, i < 4 → j < 4 → r / 10 ^ i % 10 = r / 10 ^ j % 10 → i = j) (hx : ix < 4) (hxv : r / 10 ^ ix % 10 = x) (hy : iy < 4) (hyv : r / 10 ^ iy % 10 = y) (t : Mem) : ∃ t', eqV t' t ∧ F_R_votesFor_15 k gF (nI x) (nI y) x3 x4 (nI r) 3 t = k (nI x) (nI y) (if 3 - iy ≤ 3 - ix then x3 else x3 + 1) (x4 + 1) t' := by
  have dv : ∀ k, nI (r / 10 ^ k) / 10 = nI (r / 10 ^ (k + 1)) := fun k => by
    rw [n_divL (Nat.lt_of_le_of_lt (Nat.div_le_self _ _) (by omega)) (b := 10) (y := 10) (by decide) (by decide) rfl, dg_ne]
  have rm : ∀ k, irm (nI (r / 10 ^ k)) 10 = nI (r / 10 ^ k % 10) := fun k => n_irmL (Nat.lt_of_le_of_lt (Nat.div_le_self _ _) (by omega)) (by decide) (by decide) rfl
  have wr : ∀ (k : Nat) (t : Mem) (v : Int32), k < 4 → sd t 149 (nI (r / 10 ^ k % 10)) v = some (mw t 149 (r / 10 ^ k % 10) v) := fun k t v hk => sd_in rfl (show r / 10 ^ k % 10 < 4 from hD k hk) (by decide)
  obtain ⟨t4, h4⟩ : ∃ t4 : Mem, t4 = mw (mw (mw (mw t 149 (r / 10 ^ 0 % 10) 3) 149 (r / 10 ^ 1 % 10) 2) 149 (r / 10 ^ 2 % 10) 1) 149 (r / 10 ^ 3 % 10) 0 := ⟨_, rfl⟩
  have at_ : ∀ i, i < 4 → t4 149 (r / 10 ^ i % 10) = nI (3 - i) := fun i hi => by
    have ne : ∀ j, j < 4 → i ≠ j → r / 10 ^ i % 10 ≠ r / 10 ^ j % 10 := fun j hj hne q => hne (hinj i j hi hj q)
    rw [h4]
    rcases (show i = 0 ∨ i = 1 ∨ i = 2 ∨ i = 3 by omega) with rfl | rfl | rfl | rfl
    · rw [mw_n (ne 3 (by decide) (by decide)), mw_n (ne 2 (by decide) (by decide)), mw_n (ne 1 (by decide) (by decide)), mw_y]; rfl
    · rw [mw_n (ne 3 (by decide) (by decide)), mw_n (ne 2 (by decide) (by decide)), mw_y]; rfl
    · rw [mw_n (ne 3 (by decide) (by decide)), mw_y]; rfl
    · rw [mw_y]; rfl
  have l_ : ∀ i v, i < 4 → r / 10 ^ i % 10 = v → ld t4 149 (nI v) = some (nI (3 - i)) := fun i v hi hv => by
    rw [← hv, ← at_ i hi]
    exact ld_in rfl (show r / 10 ^ i % 10 < 4 from hD i hi) (by decide)
  refine ⟨t4, fun c hc => by rw [h4, mw_o hc, mw_o hc, mw_o hc, mw_o hc], ?_⟩
  have r0 : nI r = nI (r / 10 ^ 0) := by rw [Nat.pow_zero, Nat.div_one]
  obtain ⟨N, hN⟩ : ∃ N, gF = N + 1 + 1 + 1 + 1 + 1 := ⟨999995, gF_eq⟩
  rw [hN, r0]
  simp only [F_R_votesFor_15, show ((3 : Int32) < 0) = False from by decide, show ((3 : Int32) + (-1)) = 2 from by decide, show ((2 : Int32) < 0) = False from by decide, show ((2 : Int32) + (-1)) = 1 from by decide, show ((1 : Int32) < 0) = False from by decide, show ((1 : Int32) + (-1)) = 0 from by decide, show ((0 : Int32) < 0) = False from by decide, show ((0 : Int32) + (-1)) = -1 from by decide, show ((-1 : Int32) < 0) = True from by decide, if_false, if_true, rm, dv, wr 0 _ _ (by decide), wr 1 _ _ (by decide), wr 2 _ _ (by decide), wr 3 _ _ (by decide), Option.bind_some]
  rw [← h4, l_ ix x hx hxv, l_ iy y hy hyv]
  simp only [Option.bind_some]
  by_cases c : 3 - iy ≤ 3 - ix
  · rw [if_pos c, if_pos (nI_le c (by omega))]
  · rw [if_neg c, if_neg (nI_ge (by omega) (by omega))]
theorem pm4 {x : Int32} (h : isPm 4 x) : ∃ r, r < 10000 ∧ x = nI r ∧ (∀ j, j < 4 → r / 10 ^ j % 10 < 4) ∧ (∀ i j, i < 4 → j < 4 → r / 10 ^ i % 10 = r / 10 ^ j % 10 → i = j) ∧ ∀ v, v < 4 → ∃ i, i < 4 ∧ r / 10 ^ i % 10 = v := by
  obtain ⟨r, h1, h2, h3⟩ := h
  obtain ⟨p1, p2⟩ := pm_inj (D := fun i => r / 10 ^ i % 10) h3
  exact ⟨r, h1, h2, p1, p2, h3⟩
/-- what is told of the signers -/
def SR (n : Nat) (s s0 : Mem) : Prop := n ≤ 7 ∧ s 26 1 = nI n ∧ s0 123 46 = nI n ∧ ∀ k, k < n → s0 148 k = s 27 k ∧ isPm 4 (s 27 k)
theorem bf4 {n x y : Nat} {s s0 : Mem} (h : SR n s s0) (hx : x < 4) (hy : y < 4) : ∀ (q k m m' c : Nat), k + q = n → q < m → q < m' → c ≤ k → ∃ c', c' ≤ n ∧ F_D_before_4 m (nI x) (nI y) (nI c) (nI k) s = some (nI c', s) ∧ ∀ t, eqV t s0 → ∃ t', eqV t' s0 ∧ F_R_votesFor_4 m' (nI x) (nI y) (nI c) (nI k) t = some (nI c', t') := by
  obtain ⟨n7, e1, e2, e3⟩ := h
  intro q
  induction q with
  | zero =>
    intro k m m' c hk hm hm' hc
    obtain ⟨m, rfl⟩ : ∃ m', m = m' + 1 := ⟨m - 1, by omega⟩
    obtain ⟨m', rfl⟩ : ∃ k, m' = k + 1 := ⟨m' - 1, by omega⟩
    have g : nI n ≤ nI k := nI_le (by omega) (by omega)
    refine ⟨c, by omega, ?_, fun t ht => ⟨t, ht, ?_⟩⟩
    · simp only [F_D_before_4, e1, if_pos g]
    · simp only [F_R_votesFor_4, ht 123 (by decide), e2, if_pos g]
  | succ q ih =>
    intro k m m' c hk hm hm' hc
    obtain ⟨m, rfl⟩ : ∃ m', m = m' + 1 := ⟨m - 1, by omega⟩
    obtain ⟨m', rfl⟩ : ∃ k, m' = k + 1 := ⟨m' - 1, by omega⟩
    have g : ¬ nI n ≤ nI k := nI_ge (by omega) (by omega)
    obtain ⟨w1, w2⟩ := e3 k (by omega)
    obtain ⟨r, hr, er, hD, hinj, hall⟩ := pm4 w2
    obtain ⟨ix, hix, hxv⟩ := hall x hx
    obtain ⟨iy, hiy, hyv⟩ := hall y hy
    have wa : F_W_at 26 (nI k) s = some (nI r, s) := (W_at (o := 26) (c := 27) (len := 7) rfl rfl rfl rfl (by decide) s (show k < 7 by omega)).trans (by rw [er])
    have pl : ∀ i v, i < 4 → r / 10 ^ i % 10 = v → F_D_placeOf (nI r) (nI v) s = some (nI (3 - i), s) := fun i v hi hv => by
      have := plC (s := s) hr hi hv (fun j hj q => hinj j i hj hi (by rw [q, hv])) 3 0 gF rfl (by rw [gF_eq]; omega) (Nat.zero_le i)
      rw [Nat.pow_zero, Nat.div_one] at this
      exact this
    obtain ⟨c', h1, h2, h3⟩ := ih (k + 1) m m' (if 3 - iy ≤ 3 - ix then c else c + 1) (by omega) (by omega) (by omega) (by split <;> omega)
    refine ⟨c', h1, ?_, fun t ht => ?_⟩
    · rw [← h2]
      by_cases cc : 3 - iy ≤ 3 - ix
      · simp only [F_D_before_4, e1, if_neg g, wa, Option.bind_some, pl ix x hix hxv, pl iy y hiy hyv, if_pos (nI_le cc (show 3 - ix < 2 ^ 31 by omega)), Int32.add_zero, nI_1, if_pos cc]
      · simp only [F_D_before_4, e1, if_neg g, wa, Option.bind_some, pl ix x hix hxv, pl iy y hiy hyv, if_neg (show ¬ nI (3 - iy) ≤ nI (3 - ix) from nI_ge (by omega) (by omega)), nI_1, if_neg cc]
    · have ld1 : ld t 148 (nI k) = some (nI r) := (ld_in rfl (Nat.lt_of_lt_of_le (show k < 7 by omega) (by decide)) (by decide)).trans (by rw [ht 148 (by decide), w1, er])
      obtain ⟨t1, o1, z1⟩ := plM (x3 := nI c) (x4 := nI k) (k := F_R_votesFor_4 m') hr hD hinj hix hxv hiy hyv t
      obtain ⟨t2, o2, z2⟩ := h3 t1 (fun c hc => (o1 c hc).trans (ht c hc))
      refine ⟨t2, o2, ?_⟩
      rw [← z2]
      simp only [F_R_votesFor_4, ht 123 (by decide), e2, if_neg g, ld1, Option.bind_some, z1, nI_1]
      by_cases cc : 3 - iy ≤ 3 - ix
      · rw [if_pos cc, if_pos cc]
      · rw [if_neg cc, if_neg cc]
