/-! ===== image: the reference goes through all that is kept ===== -/
def sqM (j : Nat) : Nat := if j = 0 then 6 else if j = 1 then 33 else if j = 2 then 35 else if j = 3 then 37 else if j = 4 then 43 else if j = 5 then 46 else if j = 6 then 51 else if j = 7 then 55 else if j = 8 then 57 else if j = 9 then 61 else 64
/-- what is kept at j -/
def sq (j : Nat) : Nat × Nat := if j < 773 then (124, j) else if j < 784 then (123, sqM (j - 773)) else if j < 790 then (127, j - 784) else if j < 886 then (128, j - 790) else if j < 934 then (140, j - 886) else if j < 1014 then (141, j - 934) else if j < 1046 then (142, j - 1014) else if j < 1070 then (if (j - 1046) % 3 = 0 then (146, (j - 1046) / 3) else if (j - 1046) % 3 = 1 then (147, (j - 1046) / 3) else (157, (j - 1046) / 3)) else if j < 1084 then (if (j - 1070) % 2 = 0 then (148, (j - 1070) / 2) else (154, (j - 1070) / 2)) else if j < 1096 then (153, j - 1084) else if j < 1106 then (159, j - 1096) else if j < 1115 then (162, j - 1106) else if j < 1715 then (129, j - 1115) else if j < 1716 then (132, 0) else if j < 1780 then (133 + (j - 1716) % 4, (j - 1716) / 4) else (137 + (j - 1780) % 2, (j - 1780) / 2)
set_option maxRecDepth 100000 in
theorem sqF : ∀ j, j < 2580 → (sq j).1 ≠ 163 ∧ ¬ ((sq j).1 = 123 ∧ (sq j).2 = 71) ∧ ¬ ((sq j).1 = 123 ∧ (sq j).2 = 69) ∧ ivo (sq j).1 (sq j).2 = j ∧ 123 ≤ (sq j).1 := by decide +kernel
theorem mw_x {s : Mem} {c k c' k' : Nat} {v : Int32} (h : ¬ (c' = c ∧ k' = k)) : mw s c k v c' k' = s c' k' := by
  by_cases e : c' = c
  · subst e
    exact mw_n (fun q => h ⟨rfl, q⟩)
  · rw [mw_o e]
/-- so much is kept, or brought back -/
def KI (t : Bool) (s0 : Mem) (p : Nat) (s : Mem) : Prop := s 123 71 = nI p ∧ s 123 69 = (bif t then 1 else 0) ∧ (t = true → (∀ j, j < p → s 163 j = s0 (sq j).1 (sq j).2) ∧ ∀ c k, c ≠ 163 → ¬ (c = 123 ∧ k = 71) → s c k = s0 c k) ∧ (t = false → (∀ j, j < p → s (sq j).1 (sq j).2 = s0 163 j) ∧ ∀ c k, (∀ j, j < p → ¬ ((sq j).1 = c ∧ (sq j).2 = k)) → ¬ (c = 123 ∧ k = 71) → s c k = s0 c k)
theorem ks {t : Bool} {s0 s : Mem} {p c k : Nat} (h : KI t s0 p s) (hp : p < 2580) (hc : sq p = (c, k)) : ∃ (v : Int32) (s1 : Mem), F_R_keeps (s c k) s = some (v, s1) ∧ KI t s0 (p + 1) (mw s1 c k v) := by
  obtain ⟨h1, h2, h3, h4⟩ := h
  obtain ⟨f1, f2, f3, f4, f5⟩ := sqF p hp
  have hc1 : (sq p).1 = c := by rw [hc]
  have hc2 : (sq p).2 = k := by rw [hc]
  rw [hc1] at f1 f2 f3 f5
  rw [hc2] at f2 f3
  have e1 : nI (p + 1) - 1 = nI p := nI_pred p
  have ep : s 123 71 + 1 = nI (p + 1) := by rw [h1]; exact nI_1 p
  obtain ⟨s1, hs1⟩ : ∃ s1, s1 = mw s 123 71 (nI (p + 1)) := ⟨_, rfl⟩
  have a1 : s1 123 71 = nI (p + 1) := by rw [hs1, mw_y]
  have a2 : s1 123 69 = s 123 69 := by rw [hs1, mw_x (by decide)]
  have a3 : s1 163 = s 163 := by rw [hs1, mw_o (by decide)]
  cases t with
  | true =>
    obtain ⟨i1, i2⟩ := h3 rfl
    have g : ¬ s1 123 69 = 0 := by rw [a2, h2]; decide
    have w : ∀ v, sd s1 163 (nI p) v = some (mw s1 163 p v) := fun v => sd_in rfl (show p < 3200 by omega) (by decide)
    refine ⟨s c k, mw s1 163 p (s c k), ?_, ?_, ?_, fun _ => ⟨fun j hj => ?_, fun c' k' n1 n2 => ?_⟩, fun q => absurd q (by decide)⟩
    · simp only [F_R_keeps, ep, ← hs1, if_neg g, a1, e1, w, Option.bind_some]
    · rw [mw_x (fun q => f2 ⟨q.1.symm, q.2.symm⟩), mw_o (by decide), a1]
    · rw [mw_x (fun q => f3 ⟨q.1.symm, q.2.symm⟩), mw_o (by decide), a2, h2]
    · rw [mw_o (fun q => f1 q.symm)]
      by_cases c1 : j = p
      · subst c1
        rw [mw_y, hc1, hc2]
        exact i2 c k f1 f2
      · rw [mw_n c1, a3]
        exact i1 j (by omega)
    · by_cases c1 : c' = c ∧ k' = k
      · obtain ⟨rfl, rfl⟩ := c1
        rw [mw_y]
        exact i2 c' k' n1 n2
      · rw [mw_x c1, mw_o n1, hs1, mw_x n2]
        exact i2 c' k' n1 n2
  | false =>
    obtain ⟨i1, i2⟩ := h4 rfl
    have g : s1 123 69 = 0 := by rw [a2, h2]; rfl
    have e163 : s 163 p = s0 163 p := i2 163 p (fun j hj q => (sqF j (by omega)).1 q.1) (fun q => absurd q.1 (by decide))
    have w : ld s1 163 (nI p) = some (s0 163 p) := (ld_in rfl (show p < 3200 by omega) (by decide)).trans (congrArg some (by rw [a3]; exact e163))
    refine ⟨s0 163 p, s1, ?_, ?_, ?_, fun q => absurd q (by decide), fun _ => ⟨fun j hj => ?_, fun c' k' n1 n2 => ?_⟩⟩
    · simp only [F_R_keeps, ep, ← hs1, if_pos g, a1, e1, w, Option.bind_some]
    · rw [mw_x (fun q => f2 ⟨q.1.symm, q.2.symm⟩), a1]
    · rw [mw_x (fun q => f3 ⟨q.1.symm, q.2.symm⟩), a2, h2]
    · obtain ⟨g1, g2, g3, g4, g5⟩ := sqF j (by omega)
      by_cases c1 : j = p
      · subst c1
        rw [hc1, hc2, mw_y]
      · rw [mw_x (fun q => c1 (by
          rw [q.1, q.2, ← hc1, ← hc2, f4] at g4
          exact g4.symm)), hs1, mw_x g2]
        exact i1 j (by omega)
    · rw [mw_x (fun q => n1 p (by omega) ⟨hc1.trans q.1.symm, hc2.trans q.2.symm⟩), hs1, mw_x n2]
      exact i2 c' k' (fun j hj => n1 j (by omega)) n2
theorem ksA {t : Bool} {s0 s : Mem} {p c k : Nat} (h : KI t s0 p s) (hp : p < 2580) (hc : sq p = (c, k)) (h1 : kd c = 1) (h2 : k < ln c) (h3 : ln c < 2 ^ 31) : ∃ s', KI t s0 (p + 1) s' ∧ ∀ g : Mem → Option (Int32 × Mem), ((ld s c (nI k)).bind fun v => (F_R_keeps v s).bind fun z => (sd z.2 c (nI k) z.1).bind g) = g s' := by
  obtain ⟨v, s1, z1, z2⟩ := ks h hp hc
  refine ⟨_, z2, fun g => ?_⟩
  rw [ld_in h1 h2 h3, Option.bind_some, z1, Option.bind_some, sd_in h1 h2 h3, Option.bind_some]
theorem ksF {t : Bool} {s0 s : Mem} {p k : Nat} (h : KI t s0 p s) (hp : p < 2580) (hc : sq p = (123, k)) : ∃ s', KI t s0 (p + 1) s' ∧ ∀ g : Mem → Option (Int32 × Mem), ((F_R_keeps (s 123 k) s).bind fun z => g (mw z.2 123 k z.1)) = g s' := by
  obtain ⟨v, s1, z1, z2⟩ := ks h hp hc
  refine ⟨_, z2, fun g => ?_⟩
  rw [z1, Option.bind_some]
theorem kl1 {t : Bool} {s0 : Mem} {F : Nat → Int32 → Mem → Option (Int32 × Mem)} {E : Mem → Option (Int32 × Mem)} {c N base : Nat} (f0 : ∀ m x s, nI N ≤ x → F (m + 1) x s = E s) (f1 : ∀ m x s, ¬ nI N ≤ x → F (m + 1) x s = (ld s c x).bind fun v => (F_R_keeps v s).bind fun z => (sd z.2 c x z.1).bind fun s3 => F m (x + 1) s3) (h1 : kd c = 1) (h2 : N ≤ ln c) (h3 : ln c < 2 ^ 31) (hs : ∀ k, k < N → sq (base + k) = (c, k)) (hb : base + N ≤ 2580) : ∀ (q k m : Nat) (s : Mem), k + q = N → q < m → KI t s0 (base + k) s → ∃ s', F m (nI k) s = E s' ∧ KI t s0 (base + N) s' := by
  intro q
  induction q with
  | zero =>
    intro k m s hk hm h
    obtain ⟨m, rfl⟩ : ∃ k, m = k + 1 := ⟨m - 1, by omega⟩
    have : k = N := by omega
    subst this
    exact ⟨s, f0 _ _ _ (nI_le (Nat.le_refl k) (by omega)), h⟩
  | succ q ih =>
    intro k m s hk hm h
    obtain ⟨m, rfl⟩ : ∃ k, m = k + 1 := ⟨m - 1, by omega⟩
    obtain ⟨s1, k1, e1⟩ := ksA h (by omega) (hs k (by omega)) h1 (by omega) h3
    obtain ⟨s', z1, z2⟩ := ih (k + 1) m s1 (by omega) (by omega) k1
    refine ⟨s', ?_, z2⟩
    rw [← z1, f1 m (nI k) s (nI_ge (by omega) (by omega)), ← nI_1]
    exact e1 _
theorem kl2 {t : Bool} {s0 : Mem} {F : Nat → Int32 → Mem → Option (Int32 × Mem)} {E : Mem → Option (Int32 × Mem)} {c d N base : Nat} (f0 : ∀ m x s, nI N ≤ x → F (m + 1) x s = E s) (f1 : ∀ m x s, ¬ nI N ≤ x → F (m + 1) x s = (ld s c x).bind fun v => (F_R_keeps v s).bind fun z => (sd z.2 c x z.1).bind fun s3 => (ld s3 d x).bind fun v => (F_R_keeps v s3).bind fun z => (sd z.2 d x z.1).bind fun s3 => F m (x + 1) s3) (h1 : kd c = 1) (h2 : N ≤ ln c) (h3 : ln c < 2 ^ 31) (g1 : kd d = 1) (g2 : N ≤ ln d) (g3 : ln d < 2 ^ 31) (hs : ∀ k, k < N → sq (base + 2 * k) = (c, k) ∧ sq (base + 2 * k + 1) = (d, k)) (hb : base + 2 * N ≤ 2580) : ∀ (q k m : Nat) (s : Mem), k + q = N → q < m → KI t s0 (base + 2 * k) s → ∃ s', F m (nI k) s = E s' ∧ KI t s0 (base + 2 * N) s' := by
  intro q
  induction q with
  | zero =>
    intro k m s hk hm h
    obtain ⟨m, rfl⟩ : ∃ k, m = k + 1 := ⟨m - 1, by omega⟩
    have : k = N := by omega
    subst this
    exact ⟨s, f0 _ _ _ (nI_le (Nat.le_refl k) (by omega)), h⟩
  | succ q ih =>
    intro k m s hk hm h
    obtain ⟨m, rfl⟩ : ∃ k, m = k + 1 := ⟨m - 1, by omega⟩
    obtain ⟨q1, q2⟩ := hs k (by omega)
    obtain ⟨s1, k1, e1⟩ := ksA h (by omega) q1 h1 (by omega) h3
    obtain ⟨s2, k2, e2⟩ := ksA k1 (by omega) q2 g1 (by omega) g3
    obtain ⟨s', z1, z2⟩ := ih (k + 1) m s2 (by omega) (by omega) k2
    refine ⟨s', ?_, z2⟩
    rw [← z1, f1 m (nI k) s (nI_ge (by omega) (by omega)), ← nI_1]
    exact (e1 _).trans (e2 _)
theorem kl3 {t : Bool} {s0 : Mem} {F : Nat → Int32 → Mem → Option (Int32 × Mem)} {E : Mem → Option (Int32 × Mem)} {c d e N base : Nat} (f0 : ∀ m x s, nI N ≤ x → F (m + 1) x s = E s) (f1 : ∀ m x s, ¬ nI N ≤ x → F (m + 1) x s = (ld s c x).bind fun v => (F_R_keeps v s).bind fun z => (sd z.2 c x z.1).bind fun s3 => (ld s3 d x).bind fun v => (F_R_keeps v s3).bind fun z => (sd z.2 d x z.1).bind fun s3 => (ld s3 e x).bind fun v => (F_R_keeps v s3).bind fun z => (sd z.2 e x z.1).bind fun s3 => F m (x + 1) s3) (h1 : kd c = 1) (h2 : N ≤ ln c) (h3 : ln c < 2 ^ 31) (g1 : kd d = 1) (g2 : N ≤ ln d) (g3 : ln d < 2 ^ 31) (i1 : kd e = 1) (i2 : N ≤ ln e) (i3 : ln e < 2 ^ 31) (hs : ∀ k, k < N → sq (base + 3 * k) = (c, k) ∧ sq (base + 3 * k + 1) = (d, k) ∧ sq (base + 3 * k + 2) = (e, k)) (hb : base + 3 * N ≤ 2580) : ∀ (q k m : Nat) (s : Mem), k + q = N → q < m → KI t s0 (base + 3 * k) s → ∃ s', F m (nI k) s = E s' ∧ KI t s0 (base + 3 * N) s' := by
  intro q
  induction q with
  | zero =>
    intro k m s hk hm h
    obtain ⟨m, rfl⟩ : ∃ k, m = k + 1 := ⟨m - 1, by omega⟩
    have : k = N := by omega
    subst this
    exact ⟨s, f0 _ _ _ (nI_le (Nat.le_refl k) (by omega)), h⟩
  | succ q ih =>
    intro k m s hk hm h
    obtain ⟨m, rfl⟩ : ∃ k, m = k + 1 := ⟨m - 1, by omega⟩
    obtain ⟨q1, q2, q3⟩ := hs k (by omega)
    obtain ⟨s1, k1, e1⟩ := ksA h (by omega) q1 h1 (by omega) h3
    obtain ⟨s2, k2, e2⟩ := ksA k1 (by omega) q2 g1 (by omega) g3
    obtain ⟨s3, k3, e3⟩ := ksA k2 (by omega) q3 i1 (by omega) i3
    obtain ⟨s', z1, z2⟩ := ih (k + 1) m s3 (by omega) (by omega) k3
    refine ⟨s', ?_, z2⟩
    rw [← z1, f1 m (nI k) s (nI_ge (by omega) (by omega)), ← nI_1]
    exact (e1 _).trans ((e2 _).trans (e3 _))
theorem kl4 {t : Bool} {s0 : Mem} {F : Nat → Int32 → Mem → Option (Int32 × Mem)} {E : Mem → Option (Int32 × Mem)} {N base : Nat} (f0 : ∀ m x s, nI N ≤ x → F (m + 1) x s = E s) (f1 : ∀ m x s, ¬ nI N ≤ x → F (m + 1) x s = (ld s 133 x).bind fun v => (F_R_keeps v s).bind fun z => (sd z.2 133 x z.1).bind fun s3 => (ld s3 134 x).bind fun v => (F_R_keeps v s3).bind fun z => (sd z.2 134 x z.1).bind fun s3 => (ld s3 135 x).bind fun v => (F_R_keeps v s3).bind fun z => (sd z.2 135 x z.1).bind fun s3 => (ld s3 136 x).bind fun v => (F_R_keeps v s3).bind fun z => (sd z.2 136 x z.1).bind fun s3 => F m (x + 1) s3) (h2 : N ≤ 48) (hs : ∀ k, k < N → sq (base + 4 * k) = (133, k) ∧ sq (base + 4 * k + 1) = (134, k) ∧ sq (base + 4 * k + 2) = (135, k) ∧ sq (base + 4 * k + 3) = (136, k)) (hb : base + 4 * N ≤ 2580) : ∀ (q k m : Nat) (s : Mem), k + q = N → q < m → KI t s0 (base + 4 * k) s → ∃ s', F m (nI k) s = E s' ∧ KI t s0 (base + 4 * N) s' := by
  intro q
  induction q with
  | zero =>
    intro k m s hk hm h
    obtain ⟨m, rfl⟩ : ∃ k, m = k + 1 := ⟨m - 1, by omega⟩
    have : k = N := by omega
    subst this
    exact ⟨s, f0 _ _ _ (nI_le (Nat.le_refl k) (by omega)), h⟩
  | succ q ih =>
    intro k m s hk hm h
    obtain ⟨m, rfl⟩ : ∃ k, m = k + 1 := ⟨m - 1, by omega⟩
    obtain ⟨q1, q2, q3, q4⟩ := hs k (by omega)
    obtain ⟨s1, k1, e1⟩ := ksA h (by omega) q1 rfl (show k < 48 by omega) (by decide)
    obtain ⟨s2, k2, e2⟩ := ksA k1 (by omega) q2 rfl (show k < 48 by omega) (by decide)
    obtain ⟨s3, k3, e3⟩ := ksA k2 (by omega) q3 rfl (show k < 48 by omega) (by decide)
    obtain ⟨s4, k4, e4⟩ := ksA k3 (by omega) q4 rfl (show k < 48 by omega) (by decide)
    obtain ⟨s', z1, z2⟩ := ih (k + 1) m s4 (by omega) (by omega) k4
    refine ⟨s', ?_, z2⟩
    rw [← z1, f1 m (nI k) s (nI_ge (by omega) (by omega)), ← nI_1]
    exact (e1 _).trans ((e2 _).trans ((e3 _).trans (e4 _)))
