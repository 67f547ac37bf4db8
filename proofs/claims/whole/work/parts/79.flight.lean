/-! ===== flight ===== -/
theorem mw_same {s : Mem} {c k : Nat} {v : Int32} (h : s c k = v) : mw s c k v = s := by
  funext a b
  unfold mw
  by_cases h1 : a = c
  · subst h1
    rw [if_pos rfl]
    by_cases h2 : b = k
    · subst h2; rw [if_pos rfl, h]
    · rw [if_neg h2]
  · rw [if_neg h1]
def fill (f : Nat → Int32) (a b : Nat) (v : Int32) : Nat → Int32 := fun k => if a ≤ k ∧ k < b then v else f k
theorem fill_0 (f : Nat → Int32) (a : Nat) (v : Int32) : fill f a a v = f := by
  funext k
  exact if_neg (by omega)
theorem fill_s {f : Nat → Int32} {a b : Nat} {v : Int32} (h : a < b) : fill (up f a v) (a + 1) b v = fill f a b v := by
  funext k
  unfold fill up
  by_cases h1 : a + 1 ≤ k ∧ k < b
  · rw [if_pos h1, if_pos (by omega)]
  · rw [if_neg h1]
    by_cases h2 : k = a
    · rw [if_pos h2, if_pos (by omega)]
    · rw [if_neg h2, if_neg (by omega)]
theorem buC {n z : Nat} {v : Int32} (hn : n < 6) (hz : z ≤ 16) : ∀ (q i m : Nat) (s : Mem), i + q = z → q < m → F_H_build_24 m (nI z) v (nI n) (nI i) s = some (nI n, rp s 3 (fill (s 3) (16 * n + i) (16 * n + z) v)) := by
  intro q
  induction q with
  | zero =>
    intro i m s hi hm
    obtain ⟨m, rfl⟩ : ∃ m', m = m' + 1 := ⟨m - 1, by omega⟩
    have : i = z := by omega
    subst this
    simp only [F_H_build_24, if_pos (nI_le (Nat.le_refl i) (show i < 2 ^ 31 by omega)), fill_0, rp_id]
  | succ q ih =>
    intro i m s hi hm
    obtain ⟨m, rfl⟩ : ∃ m', m = m' + 1 := ⟨m - 1, by omega⟩
    have hp := H_put (s := s) (h0 := 2) (c := 3) (t := 0) (f := n) (i := i) (v := v) rfl rfl rfl rfl (by decide) hn (by omega)
    have hp : F_H_put 2 0 (nI n) (nI i) v s = some (0, mw s 3 (16 * n + i) v) := by
      rw [Nat.mul_zero, Nat.zero_add] at hp
      exact hp
    simp only [F_H_build_24, if_neg (nI_ge (show i < z by omega) (show z < 2 ^ 31 by omega)), hp, Option.bind_some, nI_1]
    rw [ih (i + 1) m _ (by omega) (by omega), mw_rp, rp_rp, rp_at, show 16 * n + (i + 1) = 16 * n + i + 1 by omega, fill_s (by omega)]
theorem fl44 {k29 : Int32 → Int32 → Mem → Option (Int32 × Mem)} {n i : Nat} {v : Int32} {s : Mem} (hn : n < 6) (hi : i < 16) (e : s 123 6 = nI n) (h0 : ∀ t, t < 8 → s 124 (5 + 96 * t + 16 * n + i) = 0) : ∀ (q t m : Nat), t + q = 8 → q < m → F_R_flight_44 k29 m v (nI i) (nI (5 + 96 * t)) s = k29 v (nI (i + 1)) s := by
  intro q
  induction q with
  | zero =>
    intro t m ht hm
    obtain ⟨m, rfl⟩ : ∃ m', m = m' + 1 := ⟨m - 1, by omega⟩
    have : t = 8 := by omega
    subst this
    simp only [F_R_flight_44, if_pos (show (773 : Int32) ≤ nI (5 + 96 * 8) from by decide), nI_1]
  | succ q ih =>
    intro t m ht hm
    obtain ⟨m, rfl⟩ : ∃ m', m = m' + 1 := ⟨m - 1, by omega⟩
    have e1 : nI (5 + 96 * t) + 16 * nI n + nI i = nI (5 + 96 * t + 16 * n + i) := by
      rw [show (16 : Int32) = nI 16 from rfl, n_mul, nI_add, nI_add]
    have e2 : nI (5 + 96 * t) + 96 = nI (5 + 96 * (t + 1)) := by
      rw [show (96 : Int32) = nI 96 from rfl, nI_add]
      congr 1
    simp only [F_R_flight_44, if_neg (show ¬ (773 : Int32) ≤ nI (5 + 96 * t) from nI_ge (b := 773) (by omega) (by decide)), e, e1, e2]
    rw [sd_in (c := 124) rfl (show 5 + 96 * t + 16 * n + i < 773 by omega) (by decide), mw_same (h0 t (by omega))]
    exact ih (t + 1) m (by omega) (by omega)
theorem fl29 {n : Nat} {v : Int32} (hn : n < 6) : ∀ (q i m : Nat) (s : Mem), i + q = 16 → q < m → s 123 6 = nI n → (∀ t i, t < 8 → i < 16 → s 124 (5 + 96 * t + 16 * n + i) = 0) → F_R_flight_29 m v (nI i) s = some (nI n, mw (mw (rp s 128 (fill (s 128) (16 * n + i) (16 * n + 16) v)) 123 6 (nI (n + 1))) 123 3 0) := by
  intro q
  induction q with
  | zero =>
    intro i m s hi hm e h0
    obtain ⟨m, rfl⟩ : ∃ m', m = m' + 1 := ⟨m - 1, by omega⟩
    have : i = 16 := by omega
    subst this
    simp only [F_R_flight_29, if_pos (show (16 : Int32) ≤ nI 16 from by decide), fill_0, rp_id, e, nI_1]
    have e2 : mw (mw s 123 6 (nI (n + 1))) 123 3 0 123 6 = nI (n + 1) := rfl
    rw [e2, nI_pred]
  | succ q ih =>
    intro i m s hi hm e h0
    obtain ⟨m, rfl⟩ : ∃ m', m = m' + 1 := ⟨m - 1, by omega⟩
    have e1 : (16 : Int32) * nI n + nI i = nI (16 * n + i) := n16 n i
    simp only [F_R_flight_29, if_neg (show ¬ (16 : Int32) ≤ nI i from nI_ge (b := 16) (by omega) (by decide)), e, e1]
    rw [sd_in (c := 128) rfl (show 16 * n + i < 96 by omega) (by decide)]
    simp only [Option.bind_some]
    have h1 := fl44 (k29 := F_R_flight_29 m) (s := mw s 128 (16 * n + i) v) (v := v) hn (show i < 16 by omega) e (fun t ht => h0 t i ht (by omega)) 8 0 gF rfl (by rw [gF_eq]; omega)
    refine Eq.trans h1 ?_
    rw [ih (i + 1) m (mw s 128 (16 * n + i) v) (by omega) (by omega) e h0, mw_rp s, rp_rp, rp_at, show 16 * n + (i + 1) = 16 * n + i + 1 by omega, fill_s (by omega)]
theorem fill_in {f : Nat → Int32} {a b k : Nat} {v : Int32} (h1 : a ≤ k) (h2 : k < b) : fill f a b v k = v := if_pos ⟨h1, h2⟩
theorem fill_o {f : Nat → Int32} {a b k : Nat} {v : Int32} (h : k < a ∨ b ≤ k) : fill f a b v k = f k := if_neg (by omega)
theorem g_flight (x v : Int32) : Good Inv (F_C_flight x v) (F_R_flight x v) := by
  intro s h
  obtain ⟨⟨hHS, hHM, hBR, hLw, hOr, hVi, hDo, hTR⟩, hKR, hUR, hMR⟩ := id h
  have hHM0 := hHM
  obtain ⟨hz, hc, hm⟩ := HS_c hHS
  have hz : szOK (nF s) (sz s) := hz
  have hc : cSz s (nF s) (sz s) := hc
  have hm : mSz s (nF s) (sz s) := hm
  obtain ⟨u, ux, -, hux, -, -, e5, -⟩ := hUR
  have hUR0 : ∀ {t : Mem}, t 0 6 = nI 0 → t 123 3 = nI 0 → t 0 5 = nI ux → UR t := fun a b c => ⟨0, ux, by decide, hux, a, b, c, fun j hj => absurd hj (Nat.not_lt_zero j)⟩
  have e22 : s 2 2 = nI (nF s) := hc.1
  have e6 : s 123 6 = nI (nF s) := hm.1
  have hn6 : nF s ≤ 6 := hz.1
  by_cases h1 : 5 ≤ v ∧ v ≤ 40
  · by_cases h2 : 1 ≤ x ∧ x ≤ 16
    · obtain ⟨z, z1, z2, rfl⟩ := inN_of (lo := 1) (hi := 16) (by decide) (by decide) h2
      by_cases h3 : nF s < 6
      · generalize hN : nF s = n at *
        have k1 : (nI n < 6) := nI_lt (b := 6) h3 (by decide)
        have k2 : 0 ≤ nI n ∧ nI n ≤ 5 := ⟨nI_pos' (by omega), nI_le (b := 5) (by omega) (by decide)⟩
        obtain ⟨A, hA⟩ : ∃ A : Mem, A = mw (mw (mw s 0 6 0) 4 n (nI z)) 2 2 (nI (n + 1)) := ⟨_, rfl⟩
        have hcC := buC (n := n) (z := z) (v := v) h3 z2 z 0 gF A (Nat.zero_add z) (by rw [gF_eq]; omega)
        rw [Nat.add_zero] at hcC
        obtain ⟨B, hB⟩ : ∃ B : Mem, B = mw (mw (rp A 3 (fill (A 3) (16 * n) (16 * n + z) v)) 123 0 0) 127 n (nI z) := ⟨_, rfl⟩
        have hno : ∀ t i, t < 8 → i < 16 → s 124 (5 + 96 * t + 16 * n + i) = 0 := by
          intro t i ht hi
          have a1 := hHM0.1 (96 * t + (16 * n + i)) (by omega)
          have a2 := hHM0.2.1 t (16 * n + i) ht (by omega) (by
            intro q
            have q1 : (16 * n + i) / 16 < nF s := q.1
            omega)
          have a1 : s 124 (5 + (96 * t + (16 * n + i))) = s 3 (96 + (96 * t + (16 * n + i))) := a1
          have a2 : s 3 (96 + 96 * t + (16 * n + i)) = 0 := a2
          rw [show 5 + 96 * t + 16 * n + i = 5 + (96 * t + (16 * n + i)) by omega, a1, ← a2]
          congr 1
          omega
        have hmM := fl29 (n := n) (v := v) h3 16 0 gF B rfl (by rw [gF_eq]; omega) (by rw [hB, hA]; exact e6) (by rw [hB, hA]; exact hno)
        rw [Nat.add_zero] at hmM
        refine ⟨nI n, rp A 3 (fill (A 3) (16 * n) (16 * n + z) v), mw (mw (rp B 128 (fill (B 128) (16 * n) (16 * n + 16) v)) 123 6 (nI (n + 1))) 123 3 0, ?_, ?_, ?_⟩
        · have q1 : sd (mw s 0 6 0) 4 (nI n) (nI z) = some (mw (mw s 0 6 0) 4 n (nI z)) := sd_in rfl (show n < 6 from h3) (by decide)
          have q2 : (mw s 0 6 0) 2 2 = nI n := e22
          have q3 : (mw (mw s 0 6 0) 4 n (nI z)) 2 2 = nI n := e22
          simp only [F_C_flight, F_H_isHeight, C_within, Option.bind_some, b01a, if_true, b01, h1, h2, and_self, not_true_eq_false, if_false, one0, b1a, e22, if_pos k1, F_C_forgetDeeds, F_H_build, q2, k2, q1, q3, nI_1]
          rw [← hA]
          rw [show (0 : Int32) = nI 0 from rfl, hcC]
          rfl
        · have q1 : ¬ nI n = 6 := fun q => absurd ((nI_eq (b := 6) (by omega) (by decide)).mp q) (by omega)
          have q2 : (mw (rp A 3 (fill (A 3) (16 * n) (16 * n + z) v)) 123 0 0) 123 6 = nI n := by rw [hA]; exact e6
          simp only [F_R_flight, R_isIn, Option.bind_some, b01, h1, h2, and_self, not_true_eq_false, if_false, one0, q2, if_neg q1]
          rw [sd_in (c := 127) rfl (show n < 6 from h3) (by decide)]
          simp only [Option.bind_some]
          rw [← hB]
          exact hmM
        · have hv := inN_of (lo := 5) (hi := 40) (by decide) (by decide) h1
          obtain ⟨hv1, hv2, hv3, hv4⟩ := hv
          subst hA
          subst hB
          generalize hT : (mw (mw (rp (mw (mw (rp (mw (mw (mw s 0 6 0) 4 n (nI z)) 2 2 (nI (n + 1))) 3 (fill ((mw (mw (mw s 0 6 0) 4 n (nI z)) 2 2 (nI (n + 1))) 3) (16 * n) (16 * n + z) v)) 123 0 0) 127 n (nI z)) 128 (fill ((mw (mw (rp (mw (mw (mw s 0 6 0) 4 n (nI z)) 2 2 (nI (n + 1))) 3 (fill ((mw (mw (mw s 0 6 0) 4 n (nI z)) 2 2 (nI (n + 1))) 3) (16 * n) (16 * n + z) v)) 123 0 0) 127 n (nI z)) 128) (16 * n) (16 * n + 16) v)) 123 6 (nI (n + 1))) 123 3 0 : Mem) = T
          have t3 : prj T 3 = fill (s 3) (16 * n) (16 * n + z) v := by rw [← hT]; rfl
          have t128 : prj T 128 = fill (s 128) (16 * n) (16 * n + 16) v := by rw [← hT]; rfl
          have t4 : ∀ f, prj T 4 f = if f = n then nI z else s 4 f := by intro f; rw [← hT]; rfl
          have t127 : ∀ f, prj T 127 f = if f = n then nI z else s 127 f := by intro f; rw [← hT]; rfl
          have nT : nF (prj T) = n + 1 := by
            have : prj T 2 2 = nI (n + 1) := by rw [← hT]; rfl
            unfold nF
            rw [this, nI_clamp (by omega)]
          have sT : ∀ f, f < n → sz (prj T) f = sz s f := by
            intro f hf
            unfold sz
            rw [t4, if_neg (by omega)]
          have sTn : sz (prj T) n = z := by
            unfold sz
            rw [t4, if_pos rfl, nI_clamp (by omega)]
          have hS : ∀ f i, isS (prj s) f i → isS (prj T) f i := by
            intro f i q
            have q1 : f < nF s := q.1
            have q2 : i < sz s f := q.2
            rw [hN] at q1
            exact ⟨by rw [nT]; omega, by rw [sT f q1]; exact q2⟩
          have hLF : ∀ f, f < nF (prj s) → f < nF (prj T) := by
            intro f q
            have q1 : f < nF s := q
            rw [nT]
            omega
          refine ⟨⟨⟨by rw [nT]; omega, ?_, ?_, fun f hf => ?_, fun f i hfi => ?_⟩, ⟨fun k hk => ?_, fun t j ht hj hn => ?_, fun j hj => ?_, ?_, ?_, ?_, ?_⟩, ?_, ?_, ?_, ?_, ?_, ?_⟩, ?_, hUR0 ?_ ?_ ?_, ?_⟩
          · rw [nT, ← hT]; rfl
          · rw [nT, ← hT]; rfl
          · rw [nT] at hf
            rw [t4, t127]
            by_cases q : f = n
            · rw [if_pos q, if_pos q, q, sTn]
              exact ⟨z1, z2, rfl, rfl⟩
            · have hf' : f < n := by omega
              rw [if_neg q, if_neg q, sT f hf']
              have := hz.2 f hf'
              exact ⟨this.1, this.2, hc.2 f hf', hm.2 f hf'⟩
          · obtain ⟨q1, q2⟩ := hfi
            rw [nT] at q1
            rw [t3, t128]
            by_cases q : f = n
            · subst q
              rw [sTn] at q2
              rw [fill_in (by omega) (by omega), fill_in (by omega) (by omega)]
              exact ⟨hv1, hv2, hv3, hv4, hv4⟩
            · have hf' : f < n := by omega
              rw [sT f hf'] at q2
              have := hz.2 f hf'
              rw [fill_o (by omega), fill_o (by omega)]
              exact hHS.2.2.2.2 f i ⟨by show f < nF s; omega, q2⟩
          · rw [t3, fill_o (by omega), ← hT]
            exact hHM.1 k hk
          · rw [t3, fill_o (by omega)]
            exact hHM.2.1 t j ht hj (fun q => hn (hS _ _ q))
          · rw [t3, fill_o (by omega), fill_o (by omega)]
            exact hHM.2.2.1 j hj
          · rw [← hT]; exact hHM.2.2.2.1
          · rw [← hT]; exact hHM.2.2.2.2.1
          · rw [← hT]; exact hHM.2.2.2.2.2.1
          · rw [← hT]; exact hHM.2.2.2.2.2.2
          · rw [← hT]; exact hBR
          · rw [← hT]; exact hLw
          · obtain ⟨no, o1, o2, o3, o4⟩ := hOr
            refine ⟨no, o1, by rw [← hT]; exact o2, by rw [← hT]; exact o3, fun l hl => ?_⟩
            obtain ⟨p1, w, f, i, p2, p3, p4⟩ := o4 l hl
            exact ⟨by rw [← hT]; exact p1, w, f, i, p2, hS f i p3, by rw [← hT]; exact p4⟩
          · obtain ⟨no, o1, o2, o3, o4⟩ := hVi
            refine ⟨no, o1, by rw [← hT]; exact o2, by rw [← hT]; exact o3, fun l hl => ?_⟩
            obtain ⟨p1, f, u, w, st, p2, p4⟩ := o4 l hl
            exact ⟨by rw [← hT]; exact p1, f, u, w, st, hLF f p2, by rw [← hT]; exact p4⟩
          · obtain ⟨no, o1, o2, o3, o4⟩ := hDo
            refine ⟨no, o1, by rw [← hT]; exact o2, by rw [← hT]; exact o3, fun l hl => ?_⟩
            obtain ⟨f, i, g, j, p1, p2, p3, p4⟩ := o4 l hl
            exact ⟨f, i, g, j, hS f i p1, hS g j p2, p3, by rw [← hT]; exact p4⟩
          · rw [← hT]; exact hTR
          · rw [← hT]; exact hKR
          · rw [← hT]; rfl
          · rw [← hT]; rfl
          · rw [← hT]; exact e5
          · rw [← hT]; exact hMR
      · have hn : nF s = 6 := by omega
        rw [hn] at e22 e6
        refine ⟨-1, s, mw s 123 0 0, ?_, ?_, Inv_t h⟩
        · simp only [F_C_flight, F_H_isHeight, C_within, Option.bind_some, b01a, if_true, b01, h1, h2, and_self, not_true_eq_false, if_false, one0, b1a, e22]
          rw [if_neg (show ¬ nI 6 < 6 by decide)]
        · have q2 : (mw s 123 0 0) 123 6 = nI 6 := e6
          simp only [F_R_flight, R_isIn, Option.bind_some, b01, h1, h2, and_self, not_true_eq_false, if_false, one0, q2]
          rw [if_pos (show nI 6 = 6 from rfl)]
    · refine ⟨-1, s, mw s 123 0 0, ?_, ?_, Inv_t h⟩
      · simp only [F_C_flight, F_H_isHeight, C_within, Option.bind_some, b01a, if_true, b01, h1, h2, and_self, not_true_eq_false, not_false_eq_true, if_false, one0, b1a]
      · simp only [F_R_flight, R_isIn, Option.bind_some, b01, h2, not_false_eq_true, if_true]
  · refine ⟨-1, s, mw s 123 0 0, ?_, ?_, Inv_t h⟩
    · simp only [F_C_flight, F_H_isHeight, C_within, Option.bind_some, b01a, if_true, b01, h1, not_false_eq_true, if_false, b0a]
    · by_cases h2 : 1 ≤ x ∧ x ≤ 16
      · simp only [F_R_flight, R_isIn, Option.bind_some, b01, h1, h2, and_self, not_true_eq_false, not_false_eq_true, if_true, if_false, one0]
      · simp only [F_R_flight, R_isIn, Option.bind_some, b01, h2, not_false_eq_true, if_true]
