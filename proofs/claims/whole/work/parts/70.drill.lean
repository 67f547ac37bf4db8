theorem dg_ne (r k : Nat) : r / 10 ^ k / 10 = r / 10 ^ (k + 1) := by rw [Nat.div_div_eq_div_mul, Nat.pow_succ]
theorem pmC {s : Mem} {r d : Nat} (hr : r < 2 ^ 31) (hd : d ≤ 8) : ∀ (q k m : Nat), k + q = d → q < m → F_D_isPermutation_10 m (nI d) (nI (r / 10 ^ k)) (nI (dgS r k)) (nI k) s = some (if r / 10 ^ d = 0 ∧ dgS r d = 2 ^ d - 1 then 1 else 0, s) := by
  intro q
  induction q with
  | zero =>
    intro k m hk hm
    obtain ⟨m, rfl⟩ : ∃ m', m = m' + 1 := ⟨m - 1, by omega⟩
    have : k = d := by omega
    subst this
    have h1 : (nI (r / 10 ^ k) = 0) ↔ r / 10 ^ k = 0 := nI_eq (b := 0) (Nat.lt_of_le_of_lt (Nat.div_le_self _ _) hr) (by decide)
    have hp : 2 ^ k ≤ 2 ^ 8 := Nat.pow_le_pow_right (by decide) hd
    have hp0 : 0 < 2 ^ k := Nat.two_pow_pos k
    have e1 : shl 1 (nI k) - 1 = nI (2 ^ k - 1) := by rw [n_shl1 (by omega)]; exact n_sub (b := 1) hp0
    have hl := dgS_lt r k
    have h2 : (nI (dgS r k) = nI (2 ^ k - 1)) ↔ dgS r k = 2 ^ k - 1 := nI_eq (by omega) (by omega)
    simp only [F_D_isPermutation_10, if_pos (nI_le (Nat.le_refl k) (show k < 2 ^ 31 by omega)), e1]
    by_cases c1 : r / 10 ^ k = 0
    · rw [if_pos (h1.mpr c1)]
      by_cases c2 : dgS r k = 2 ^ k - 1
      · rw [if_pos (h2.mpr c2), if_pos ⟨c1, c2⟩]
      · rw [if_neg (fun z => c2 (h2.mp z)), if_neg (fun z => c2 z.2)]
    · rw [if_neg (fun z => c1 (h1.mp z)), if_neg (fun z => c1 z.1)]
  | succ q ih =>
    intro k m hk hm
    obtain ⟨m, rfl⟩ : ∃ m', m = m' + 1 := ⟨m - 1, by omega⟩
    have hq : r / 10 ^ k < 2 ^ 31 := Nat.lt_of_le_of_lt (Nat.div_le_self _ _) hr
    have e1 : irm (nI (r / 10 ^ k)) 10 = nI (r / 10 ^ k % 10) := n_irmL hq (by decide) (by decide) rfl
    have e2 : nI (r / 10 ^ k) / 10 = nI (r / 10 ^ (k + 1)) := by rw [n_divL hq (b := 10) (y := 10) (by decide) (by decide) rfl, dg_ne]
    have hm10 : r / 10 ^ k % 10 < 10 := Nat.mod_lt _ (by decide)
    simp only [F_D_isPermutation_10, if_neg (nI_ge (show k < d by omega) (show d < 2 ^ 31 by omega)), e1, e2, nI_1]
    rw [n_shl1 (by omega), fa_or]
    exact ih (k + 1) m (by omega) (by omega)
theorem D_perm {s : Mem} {r d : Nat} (hr : r < 2 ^ 31) (hd : d ≤ 8) : F_D_isPermutation (nI r) (nI d) s = some (if r / 10 ^ d = 0 ∧ dgS r d = 2 ^ d - 1 then 1 else 0, s) := by
  have h := pmC (s := s) (d := d) hr hd d 0 gF (Nat.zero_add d) (by rw [gF_eq]; omega)
  rw [Nat.pow_zero, Nat.div_one] at h
  unfold F_D_isPermutation
  rw [if_pos (nI_pos' hr)]
  exact h
theorem D_permN {s : Mem} {x y : Int32} (h : ¬ 0 ≤ x) : F_D_isPermutation x y s = some (0, s) := by
  unfold F_D_isPermutation
  rw [if_neg h]
theorem drM {s : Mem} {r : Nat} {x : Int32} (hr : r < 2 ^ 31) : ∀ (q k m : Nat), k + q = 8 → q < m → F_R_drill_17 m x (nI (dgS r k)) (nI (r / 10 ^ k)) (nI k) s = if (∀ i, i < 8 → k ≤ i → r / 10 ^ i % 10 ≤ 7) ∧ dgS r 8 = 255 then some (1, mw s 123 51 (x - 1234567)) else some (0, s) := by
  intro q
  induction q with
  | zero =>
    intro k m hk hm
    obtain ⟨m, rfl⟩ : ∃ m', m = m' + 1 := ⟨m - 1, by omega⟩
    have : k = 8 := by omega
    subst this
    have hl := dgS_lt r 8
    have h2 : (nI (dgS r 8) = 255) ↔ dgS r 8 = 255 := nI_eq (b := 255) (by omega) (by decide)
    simp only [F_R_drill_17, show (8 : Int32) ≤ nI 8 from by decide, if_true]
    by_cases c2 : dgS r 8 = 255
    · rw [if_pos (h2.mpr c2), if_pos ⟨fun i h1 h2 => by omega, c2⟩]
    · rw [if_neg (fun z => c2 (h2.mp z)), if_neg (fun z => c2 z.2)]
  | succ q ih =>
    intro k m hk hm
    obtain ⟨m, rfl⟩ : ∃ m', m = m' + 1 := ⟨m - 1, by omega⟩
    have hq : r / 10 ^ k < 2 ^ 31 := Nat.lt_of_le_of_lt (Nat.div_le_self _ _) hr
    have e1 : irm (nI (r / 10 ^ k)) 10 = nI (r / 10 ^ k % 10) := n_irmL hq (by decide) (by decide) rfl
    have e2 : nI (r / 10 ^ k) / 10 = nI (r / 10 ^ (k + 1)) := by rw [n_divL hq (b := 10) (y := 10) (by decide) (by decide) rfl, dg_ne]
    have hm10 : r / 10 ^ k % 10 < 10 := Nat.mod_lt _ (by decide)
    have e3 : (nI (r / 10 ^ k % 10) ≤ 7) ↔ r / 10 ^ k % 10 ≤ 7 := nI_leI (b := 7) (by omega) (by decide)
    simp only [F_R_drill_17, if_neg (show ¬ (8 : Int32) ≤ nI k from nI_ge (b := 8) (by omega) (by decide)), e1, e2, nI_1]
    by_cases c : r / 10 ^ k % 10 ≤ 7
    · rw [if_pos (e3.mpr c), n_shl1 (by omega), fa_or]
      rw [show dgS r k ||| 2 ^ (r / 10 ^ k % 10) = dgS r (k + 1) from rfl, ih (k + 1) m (by omega) (by omega)]
      by_cases c2 : (∀ i, i < 8 → k + 1 ≤ i → r / 10 ^ i % 10 ≤ 7) ∧ dgS r 8 = 255
      · rw [if_pos c2, if_pos ⟨fun i h1 h2 => by
          by_cases h3 : i = k
          · rw [h3]; exact c
          · exact c2.1 i h1 (by omega), c2.2⟩]
      · rw [if_neg c2, if_neg (fun z => c2 ⟨fun i h1 h2 => z.1 i h1 (by omega), z.2⟩)]
    · rw [if_neg (fun z => c (e3.mp z)), if_neg (fun z => c (z.1 k (by omega) (Nat.le_refl k)))]
theorem g_drill (v : Int32) : Good Inv (F_C_drill v) (F_R_drill v) := by
  intro s h
  by_cases h0 : 0 ≤ v
  · obtain ⟨r, hr, rfl⟩ : ∃ r, r < 2 ^ 31 ∧ v = nI r := by
      have h1 := fb_rng v
      have h2 : 0 ≤ v.toInt := (fa_le _ _).mp h0
      exact ⟨v.toInt.toNat, by omega, n_of h2⟩
    have hc := D_perm (s := s) (d := 8) hr (by decide)
    have hm := drM (s := mw s 123 0 0) (x := nI r) hr 8 0 gF rfl (by rw [gF_eq]; omega)
    rw [Nat.pow_zero, Nat.div_one] at hm
    have e1 : (nI r ≤ 76543210) ↔ r ≤ 76543210 := nI_leI (b := 76543210) hr (by decide)
    by_cases hp : r / 10 ^ 8 = 0 ∧ dgS r 8 = 2 ^ 8 - 1
    · rw [if_pos hp] at hc
      have hr8 : r < 100000000 := by
        have := hp.1
        simp only [Nat.reducePow] at this
        omega
      have hmax := pm_max8 hr8 hp.2
      have hin : 0 ≤ nI r ∧ nI r ≤ 76543210 := ⟨h0, e1.mpr hmax⟩
      have hall := pm_inj (dgS_all.mp hp.2)
      rw [if_pos ⟨fun i hi _ => by have := hall.1 i hi; omega, hp.2⟩] at hm
      obtain ⟨⟨hHS, hHM, hBR, hLw, hOr, hVi, hDo, ⟨hT0, hT1, hT2, hT3, hT4, hT5, hT6, hT7, hT8⟩⟩, hKR, hUR, hMR⟩ := h
      refine ⟨1, mw s 21 7 (nI r), mw (mw (mw s 21 7 (nI r)) 123 0 0) 123 51 (nI r - 1234567), ?_, ?_, ?_⟩
      · unfold F_C_drill
        rw [show (8 : Int32) = nI 8 from rfl, hc]
        rfl
      · have hm' := drM (s := mw (mw s 21 7 (nI r)) 123 0 0) (x := nI r) hr 8 0 gF rfl (by rw [gF_eq]; omega)
        rw [Nat.pow_zero, Nat.div_one, if_pos ⟨fun i hi _ => by have := hall.1 i hi; omega, hp.2⟩] at hm'
        simp only [F_R_drill, R_isIn, Option.bind_some, b01, hin, and_self, not_true_eq_false, if_false, one0]
        exact hm'
      · exact ⟨⟨hHS, hHM, hBR, hLw, hOr, hVi, hDo, ⟨hT0, hT1, hT2, hT3, hT4, hT5, hT6, ⟨isPm_of hp.1 hp.2, rfl⟩, hT8⟩⟩, hKR, hUR, hMR⟩
    · rw [if_neg hp] at hc
      refine ⟨0, s, mw s 123 0 0, ?_, ?_, Inv_t h⟩
      · unfold F_C_drill
        rw [show (8 : Int32) = nI 8 from rfl, hc]
        rfl
      · by_cases hmax : r ≤ 76543210
        · have hin : 0 ≤ nI r ∧ nI r ≤ 76543210 := ⟨h0, e1.mpr hmax⟩
          rw [if_neg (fun z => hp ⟨by simp only [Nat.reducePow]; omega, z.2⟩)] at hm
          simp only [F_R_drill, R_isIn, Option.bind_some, b01, hin, and_self, not_true_eq_false, if_false, one0]
          exact hm
        · have hin : ¬ (0 ≤ nI r ∧ nI r ≤ 76543210) := fun z => hmax (e1.mp z.2)
          simp only [F_R_drill, R_isIn, Option.bind_some, b01, hin, not_false_eq_true, if_true]
  · refine ⟨0, s, mw s 123 0 0, ?_, ?_, Inv_t h⟩
    · unfold F_C_drill
      rw [D_permN h0]
      rfl
    · have hin : ¬ (0 ≤ v ∧ v ≤ 76543210) := fun z => h0 z.1
      simp only [F_R_drill, R_isIn, Option.bind_some, b01, hin, not_false_eq_true, if_true]
theorem sgM {s : Mem} {r : Nat} {x : Int32} (hr : r < 2 ^ 31) : ∀ (q k m : Nat), k + q = 4 → q < m → F_R_signer_29 m x (nI (dgS r k)) (nI (r / 10 ^ k)) (nI k) s = if (∀ i, i < 4 → k ≤ i → r / 10 ^ i % 10 ≤ 3) ∧ dgS r 4 = 15 then ((sd s 148 (s 123 46) x).bind fun s1 => some ((mw s1 123 46 (s1 123 46 + 1)) 123 46, mw s1 123 46 (s1 123 46 + 1))) else some (-1, s) := by
  intro q
  induction q with
  | zero =>
    intro k m hk hm
    obtain ⟨m, rfl⟩ : ∃ m', m = m' + 1 := ⟨m - 1, by omega⟩
    have : k = 4 := by omega
    subst this
    have hl := dgS_lt r 4
    have h2 : (nI (dgS r 4) = 15) ↔ dgS r 4 = 15 := nI_eq (b := 15) (by omega) (by decide)
    simp only [F_R_signer_29, show (4 : Int32) ≤ nI 4 from by decide, if_true]
    by_cases c2 : dgS r 4 = 15
    · rw [if_pos (h2.mpr c2), if_pos ⟨fun i h1 h2 => by omega, c2⟩]
    · rw [if_neg (fun z => c2 (h2.mp z)), if_neg (fun z => c2 z.2)]
  | succ q ih =>
    intro k m hk hm
    obtain ⟨m, rfl⟩ : ∃ m', m = m' + 1 := ⟨m - 1, by omega⟩
    have hq : r / 10 ^ k < 2 ^ 31 := Nat.lt_of_le_of_lt (Nat.div_le_self _ _) hr
    have e1 : irm (nI (r / 10 ^ k)) 10 = nI (r / 10 ^ k % 10) := n_irmL hq (by decide) (by decide) rfl
    have e2 : nI (r / 10 ^ k) / 10 = nI (r / 10 ^ (k + 1)) := by rw [n_divL hq (b := 10) (y := 10) (by decide) (by decide) rfl, dg_ne]
    have hm10 : r / 10 ^ k % 10 < 10 := Nat.mod_lt _ (by decide)
    have e3 : (nI (r / 10 ^ k % 10) ≤ 3) ↔ r / 10 ^ k % 10 ≤ 3 := nI_leI (b := 3) (by omega) (by decide)
    simp only [F_R_signer_29, if_neg (show ¬ (4 : Int32) ≤ nI k from nI_ge (b := 4) (by omega) (by decide)), e1, e2, nI_1]
    by_cases c : r / 10 ^ k % 10 ≤ 3
    · rw [if_pos (e3.mpr c), n_shl1 (by omega), fa_or]
      rw [show dgS r k ||| 2 ^ (r / 10 ^ k % 10) = dgS r (k + 1) from rfl, ih (k + 1) m (by omega) (by omega)]
      by_cases c2 : (∀ i, i < 4 → k + 1 ≤ i → r / 10 ^ i % 10 ≤ 3) ∧ dgS r 4 = 15
      · rw [if_pos c2, if_pos ⟨fun i h1 h2 => by
          by_cases h3 : i = k
          · rw [h3]; exact c
          · exact c2.1 i h1 (by omega), c2.2⟩]
      · rw [if_neg c2, if_neg (fun z => c2 ⟨fun i h1 h2 => z.1 i h1 (by omega), z.2⟩)]
    · rw [if_neg (fun z => c (e3.mp z)), if_neg (fun z => c (z.1 k (by omega) (Nat.le_refl k)))]
theorem g_signer (v : Int32) : Good Inv (F_C_signer v) (F_R_signer v) := by
  intro s h
  obtain ⟨⟨hHS, hHM, hBR, hLw, hOr, hVi, hDo, ⟨hT0, hT1, ⟨n, hn, e1, e2, e3, e4⟩, hT3, hT4, hT5, hT6, hT7, hT8⟩⟩, hKR, hUR, hMR⟩ := id h
  have e1 : s 26 1 = nI n := e1
  have e2 : s 123 46 = nI n := e2
  by_cases h1 : v = -1
  · refine ⟨0, mw s 26 1 0, mw (mw (mw s 26 1 0) 123 0 0) 123 46 0, ?_, ?_, ?_⟩
    · simp only [F_C_signer, if_pos h1, F_W_clear, show Nat.beq (kd 26) 11 = true from rfl, cond_true, Option.bind_some]
    · simp only [F_R_signer, if_pos h1]
    · exact ⟨⟨hHS, hHM, hBR, hLw, hOr, hVi, hDo, ⟨hT0, hT1, ⟨0, Nat.zero_le _, rfl, rfl, e3, fun k hk => absurd hk (Nat.not_lt_zero k)⟩, hT3, hT4, hT5, hT6, hT7, hT8⟩⟩, hKR, hUR, hMR⟩
  by_cases h0 : 0 ≤ v
  · obtain ⟨r, hr, rfl⟩ : ∃ r, r < 2 ^ 31 ∧ v = nI r := by
      have h1 := fb_rng v
      have h2 : 0 ≤ v.toInt := (fa_le _ _).mp h0
      exact ⟨v.toInt.toNat, by omega, n_of h2⟩
    have hc := D_perm (s := s) (d := 4) hr (by decide)
    have q1 : (nI r ≤ 3210) ↔ r ≤ 3210 := nI_leI (b := 3210) hr (by decide)
    by_cases hp : r / 10 ^ 4 = 0 ∧ dgS r 4 = 2 ^ 4 - 1
    · rw [if_pos hp] at hc
      have hr8 : r < 10000 := by
        have := hp.1
        simp only [Nat.reducePow] at this
        omega
      have hmax := pm_max4 hr8 hp.2
      have hin : 0 ≤ nI r ∧ nI r ≤ 3210 := ⟨h0, q1.mpr hmax⟩
      have hall := pm_inj (dgS_all.mp hp.2)
      have hadd := W_add (o := 26) (c := 27) (len := 7) rfl rfl rfl rfl (by decide) (by decide) (by decide) (nI r) s hn e1
      by_cases h3 : n < 7
      · rw [if_pos h3] at hadd
        refine ⟨nI (n + 1), mw (mw s 27 n (nI r)) 26 1 (nI (n + 1)), mw (mw (mw (mw (mw s 27 n (nI r)) 26 1 (nI (n + 1))) 123 0 0) 148 n (nI r)) 123 46 (nI (n + 1)), ?_, ?_, ?_⟩
        · unfold F_C_signer
          rw [if_neg h1, show (4 : Int32) = nI 4 from rfl, hc]
          simp only [Option.bind_some, one0, if_false, hadd]
        · have hm := sgM (s := mw (mw (mw s 27 n (nI r)) 26 1 (nI (n + 1))) 123 0 0) (x := nI r) hr 4 0 gF rfl (by rw [gF_eq]; omega)
          rw [Nat.pow_zero, Nat.div_one, if_pos ⟨fun i hi _ => by have := hall.1 i hi; omega, hp.2⟩] at hm
          have e6 : (mw (mw (mw s 27 n (nI r)) 26 1 (nI (n + 1))) 123 0 0) 123 46 = nI n := e2
          have e5 : ¬ nI n = 7 := fun q => absurd ((nI_eq (show n < 2 ^ 31 by omega) (show 7 < 2 ^ 31 by decide)).mp q) (by omega)
          simp only [F_R_signer, if_neg h1, R_isIn, Option.bind_some, b01, hin, and_self, not_true_eq_false, if_false, one0, e6, if_neg e5]
          refine Eq.trans hm ?_
          rw [e6, sd_in (c := 148) rfl h3 (by decide)]
          simp only [Option.bind_some]
          have e7 : (mw (mw (mw (mw s 27 n (nI r)) 26 1 (nI (n + 1))) 123 0 0) 148 n (nI r)) 123 46 = nI n := e2
          rw [e7, nI_1]
          rfl
        · refine ⟨⟨hHS, hHM, hBR, hLw, hOr, hVi, hDo, ⟨hT0, hT1, ⟨n + 1, h3, rfl, rfl, fun k hk => ?_, fun k hk => ?_⟩, hT3, hT4, hT5, hT6, hT7, hT8⟩⟩, hKR, hUR, hMR⟩
          · show mw s 148 n (nI r) 148 k = mw s 27 n (nI r) 27 k
            by_cases q : k = n
            · rw [q, mw_y, mw_y]
            · rw [mw_n q, mw_n q]; exact e3 k hk
          · show isPm 4 (mw s 27 n (nI r) 27 k)
            by_cases q : k = n
            · rw [q, mw_y]; exact isPm_of hp.1 hp.2
            · rw [mw_n q]; exact e4 k (by omega)
      · rw [if_neg h3] at hadd
        refine ⟨-1, s, mw s 123 0 0, ?_, ?_, Inv_t h⟩
        · unfold F_C_signer
          rw [if_neg h1, show (4 : Int32) = nI 4 from rfl, hc]
          simp only [Option.bind_some, one0, if_false, hadd]
        · have e5 : nI n = 7 := by rw [show n = 7 by omega]; rfl
          have e6 : (mw s 123 0 0) 123 46 = nI n := e2
          simp only [F_R_signer, if_neg h1, R_isIn, Option.bind_some, b01, hin, and_self, not_true_eq_false, if_false, one0, e6, if_pos e5]
    · rw [if_neg hp] at hc
      refine ⟨-1, s, mw s 123 0 0, ?_, ?_, Inv_t h⟩
      · unfold F_C_signer
        rw [if_neg h1, show (4 : Int32) = nI 4 from rfl, hc]
        rfl
      · by_cases hmax : r ≤ 3210
        · have hin : 0 ≤ nI r ∧ nI r ≤ 3210 := ⟨h0, q1.mpr hmax⟩
          have hm := sgM (s := mw s 123 0 0) (x := nI r) hr 4 0 gF rfl (by rw [gF_eq]; omega)
          rw [Nat.pow_zero, Nat.div_one, if_neg (fun z => hp ⟨by simp only [Nat.reducePow]; omega, z.2⟩)] at hm
          simp only [F_R_signer, if_neg h1, R_isIn, Option.bind_some, b01, hin, and_self, not_true_eq_false, if_false, one0]
          by_cases h7 : (mw s 123 0 0) 123 46 = 7
          · rw [if_pos h7]
          · rw [if_neg h7]
            exact hm
        · have hin : ¬ (0 ≤ nI r ∧ nI r ≤ 3210) := fun z => hmax (q1.mp z.2)
          simp only [F_R_signer, if_neg h1, R_isIn, Option.bind_some, b01, hin, not_false_eq_true, if_true]
  · refine ⟨-1, s, mw s 123 0 0, ?_, ?_, Inv_t h⟩
    · unfold F_C_signer
      rw [if_neg h1, D_permN h0]
      rfl
    · have hin : ¬ (0 ≤ v ∧ v ≤ 3210) := fun z => h0 z.1
      simp only [F_R_signer, if_neg h1, R_isIn, Option.bind_some, b01, hin, not_false_eq_true, if_true]
