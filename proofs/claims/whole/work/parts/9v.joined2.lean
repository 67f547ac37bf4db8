/-! ===== joined: the least ===== -/
def mn (x y : Nat) : Nat := if y < x then y else x
def df (x y : Nat) : Nat := if x ≤ y then y - x else x - y
theorem n_mn {x y : Nat} (hx : x < 2 ^ 31) (hy : y < 2 ^ 31) : (if nI y < nI x then nI y else nI x) = nI (mn x y) := by
  unfold mn
  by_cases c : y < x
  · rw [if_pos c, if_pos (nI_lt c hx)]
  · rw [if_neg c, if_neg (nI_nlt (by omega) hy)]
theorem n_ml {x y : Nat} (hx : x < 2 ^ 31) (hy : y < 2 ^ 31) : (if nI y ≤ nI x then nI y else nI x) = nI (mn x y) := by
  unfold mn
  by_cases c : y < x
  · rw [if_pos c, if_pos (nI_le (by omega) hx)]
  · rw [if_neg c]
    by_cases c2 : y = x
    · subst c2
      rw [if_pos (nI_le (Nat.le_refl y) hx)]
    · rw [if_neg (nI_ge (by omega) hy)]
theorem mn_le (x y : Nat) : mn x y ≤ x := by
  unfold mn
  split <;> omega
set_option maxRecDepth 100000 in
theorem abT : ∀ x, x < 41 → ∀ y, y < 41 → (if 0 ≤ nI x - nI y then nI x - nI y else -(nI x - nI y)) = nI (df x y) := by decide +kernel
theorem C_ab2 {x y : Nat} (hx : x ≤ 40) (hy : y ≤ 40) (s : Mem) : F_JM_abs (nI x - nI y) s = some (nI (df x y), s) := by
  rw [← abT x (by omega) y (by omega)]
  unfold F_JM_abs
  split <;> rfl
theorem R_apart {x y : Nat} (hx : x ≤ 40) (hy : y ≤ 40) (s : Mem) : F_R_apart (nI x) (nI y) s = some (nI (df x y), s) := by
  unfold F_R_apart df
  by_cases c : x ≤ y
  · rw [if_pos (nI_le c (by omega)), if_pos c, n_sub c]
  · rw [if_neg (nI_ge (by omega) (by omega)), if_neg c, n_sub (by omega)]
def j0 (H : Nat → Nat) : Nat → Nat
  | 0 => 0
  | k + 1 => j0 H k + H k
def jrw (H : Nat → Nat) (p : Nat → Nat) (h : Nat) : Nat → Nat
  | 0 => p 0 + h
  | k + 1 => mn (mn (p (k + 1) + h) (jrw H p h k + H k)) (p k + df h (H k))
/-- the least for the first i of one and the first k of the other -/
def jc (G H : Nat → Nat) : Nat → Nat → Nat
  | 0 => j0 H
  | i + 1 => jrw H (jc G H i) (G i)
theorem j0_le {H : Nat → Nat} : ∀ k, (∀ i, i < k → H i ≤ 40) → j0 H k ≤ 40 * k
  | 0, _ => Nat.le_refl 0
  | k + 1, h => by
    have h1 := j0_le k (fun i hi => h i (by omega))
    have h2 := h k (by omega)
    show j0 H k + H k ≤ _
    omega
theorem jc_le {G H : Nat → Nat} {z : Nat} (hH : ∀ i, i < z → H i ≤ 40) : ∀ i, (∀ j, j < i → G j ≤ 40) → ∀ k, k ≤ z → jc G H i k ≤ 40 * (i + k)
  | 0, _, k, hk => by
    have := j0_le (H := H) k (fun i hi => hH i (by omega))
    show j0 H k ≤ _
    omega
  | i + 1, h, 0, hk => by
    have h1 := jc_le hH i (fun j hj => h j (by omega)) 0 (by omega)
    have h2 := h i (by omega)
    show jc G H i 0 + G i ≤ _
    omega
  | i + 1, h, k + 1, hk => by
    have h1 := jc_le hH i (fun j hj => h j (by omega)) (k + 1) hk
    have h2 := h i (by omega)
    have h3 := mn_le (mn (jc G H i (k + 1) + G i) (jrw H (jc G H i) (G i) k + H k)) (jc G H i k + df (G i) (H k))
    have h4 := mn_le (jc G H i (k + 1) + G i) (jrw H (jc G H i) (G i) k + H k)
    show mn (mn (jc G H i (k + 1) + G i) (jrw H (jc G H i) (G i) k + H k)) (jc G H i k + df (G i) (H k)) ≤ _
    omega
theorem df_le {x y : Nat} (hx : x ≤ 40) (hy : y ≤ 40) : df x y ≤ 40 := by
  unfold df
  split <;> omega
/-! the class's rows -/
theorem HB_c {a a' b : Mem} {f z : Nat} {H : Nat → Nat} (h : HB a b f z H) (e : ∀ c, c ≠ 94 → c ≠ 95 → a' c = a c) : HB a' b f z H := by
  unfold HB
  rw [e 4 (by decide) (by decide), e 3 (by decide) (by decide)]
  exact h
theorem HB_m {a b b' : Mem} {f z : Nat} {H : Nat → Nat} (h : HB a b f z H) (e : ∀ c, c ≠ 150 → b' c = b c) : HB a b' f z H := by
  unfold HB
  rw [e 127 (by decide), e 128 (by decide)]
  exact h
theorem jo71 {b : Mem} {f g y z i : Nat} {G H : Nat → Nat} {k : Int32 → Int32 → Int32 → Int32 → Mem → Option (Int32 × Mem)} {x5 : Int32} (hiy : i < y) : ∀ (q j m : Nat) (a : Mem), HB a b g z H → HB a b f y G → j + 1 + q = z + 1 → q < m → (∀ k, k ≤ z → a 95 k = nI (jc G H i k)) → (∀ k, k ≤ j → a 94 k = nI (jc G H (i + 1) k)) → ∃ a', F_U_joinCost_71 k m (nI f) (nI g) (nI z) x5 (nI (G i)) (nI (j + 1)) a = k (nI f) (nI g) (nI z) (x5 + 1) a' ∧ (∀ k, k ≤ z → a' 94 k = nI (jc G H (i + 1) k)) ∧ ∀ c, c ≠ 94 → a' c = a c := by
  intro q
  induction q with
  | zero =>
    intro j m a h hf hj hm e5 e4
    obtain ⟨m, rfl⟩ : ∃ k, m = k + 1 := ⟨m - 1, by omega⟩
    have z16 := h.2.2.1
    refine ⟨a, ?_, fun k hk => e4 k (by omega), fun _ _ => rfl⟩
    simp only [F_U_joinCost_71, if_pos (show nI z < nI (j + 1) from nI_lt (by omega) (by omega))]
  | succ q ih =>
    intro j m a h hf hj hm e5 e4
    obtain ⟨m, rfl⟩ : ∃ k, m = k + 1 := ⟨m - 1, by omega⟩
    have z16 := h.2.2.1
    have y16 := hf.2.2.1
    have hH : ∀ i, i < z → H i ≤ 40 := fun i hi => (h.2.2.2.2.2 i hi).2.1
    have hG : ∀ i, i < y → G i ≤ 40 := fun i hi => (hf.2.2.2.2.2 i hi).2.1
    have l1 : ld a 95 (nI (j + 1)) = some (nI (jc G H i (j + 1))) := (ld_in rfl (show j + 1 < 17 by omega) (by decide)).trans (congrArg some (e5 _ (by omega)))
    have l2 : ld a 94 (nI j) = some (nI (jc G H (i + 1) j)) := (ld_in rfl (show j < 17 by omega) (by decide)).trans (congrArg some (e4 _ (by omega)))
    have l3 : ld a 95 (nI j) = some (nI (jc G H i j)) := (ld_in rfl (show j < 17 by omega) (by decide)).trans (congrArg some (e5 _ (by omega)))
    have w1 : ∀ v, sd a 94 (nI (j + 1)) v = some (mw a 94 (j + 1) v) := fun v => sd_in rfl (show j + 1 < 17 by omega) (by decide)
    have ep : nI (j + 1) - 1 = nI j := nI_pred j
    have b1 := jc_le (G := G) hH i (fun j hj => hG j (by omega)) (j + 1) (by omega)
    have b2 := jc_le (G := G) hH (i + 1) (fun j hj => hG j (by omega)) j (by omega)
    have b3 := jc_le (G := G) hH i (fun j hj => hG j (by omega)) j (by omega)
    have b4 := hG i hiy
    have b5 := hH j (by omega)
    have b6 := df_le b4 b5
    have b7 := mn_le (jc G H i (j + 1) + G i) (jc G H (i + 1) j + H j)
    obtain ⟨a', z1, z2, z3⟩ := ih (j + 1) m (mw a 94 (j + 1) (nI (jc G H (i + 1) (j + 1)))) (HB_c h (fun c c1 _ => mw_o c1)) (HB_c hf (fun c c1 _ => mw_o c1)) (by omega) (by omega) e5 (fun k hk => by
      by_cases c : k = j + 1
      · rw [c, mw_y]
      · rw [mw_n c]
        exact e4 k (by omega))
    refine ⟨a', ?_, z2, fun c hc => (z3 c hc).trans (mw_o hc)⟩
    rw [← z1]
    have ej : jc G H (i + 1) (j + 1) = mn (mn (jc G H i (j + 1) + G i) (jc G H (i + 1) j + H j)) (jc G H i j + df (G i) (H j)) := rfl
    simp only [F_U_joinCost_71, if_neg (show ¬ nI z < nI (j + 1) from nI_nlt (by omega) (by omega)), ep, (HB_at h (show j < z by omega)).1, Option.bind_some, l1, l2, l3, nI_add, C_min, n_mn (show jc G H i (j + 1) + G i < 2 ^ 31 by omega) (show jc G H (i + 1) j + H j < 2 ^ 31 by omega), C_ab2 b4 b5, n_mn (show mn (jc G H i (j + 1) + G i) (jc G H (i + 1) j + H j) < 2 ^ 31 by omega) (show jc G H i j + df (G i) (H j) < 2 ^ 31 by omega), w1, nI_1, ej]
theorem jo38 {b : Mem} {f g y z : Nat} {G H : Nat → Nat} : ∀ (q i m : Nat) (a : Mem), HB a b g z H → HB a b f y G → i + q = y → q < m → (∀ k, k ≤ z → a 94 k = nI (jc G H i k)) → ∃ a', F_U_joinCost_38 m (nI f) (nI g) (nI z) (nI i) a = some (nI (jc G H y z), a') ∧ ∀ c, c ≠ 94 → c ≠ 95 → a' c = a c := by
  intro q
  induction q with
  | zero =>
    intro i m a h hf hi hm e4
    obtain ⟨m, rfl⟩ : ∃ k, m = k + 1 := ⟨m - 1, by omega⟩
    have z16 := h.2.2.1
    have y16 := hf.2.2.1
    have : i = y := by omega
    subst this
    have l2 : ld a 94 (nI z) = some (nI (jc G H i z)) := (ld_in rfl (show z < 17 by omega) (by decide)).trans (congrArg some (e4 _ (Nat.le_refl z)))
    refine ⟨a, ?_, fun _ _ _ => rfl⟩
    simp only [F_U_joinCost_38, (HB_sz hf).1, Option.bind_some, if_pos (show nI i ≤ nI i from nI_le (Nat.le_refl i) (by omega)), l2]
  | succ q ih =>
    intro i m a h hf hi hm e4
    obtain ⟨m, rfl⟩ : ∃ k, m = k + 1 := ⟨m - 1, by omega⟩
    have z16 := h.2.2.1
    have y16 := hf.2.2.1
    obtain ⟨w, w1, w2⟩ := cpy_all (s := a) (c := 94) (d := 95) (n := 17) rfl rfl rfl rfl (by decide)
    have w2 : cpy a 94 0 95 0 17 = some (rp a 95 w) := w2
    obtain ⟨a1, ha1⟩ : ∃ a1, a1 = rp a 95 w := ⟨_, rfl⟩
    rw [← ha1] at w2
    have o1 : ∀ c, c ≠ 95 → a1 c = a c := fun c hc => by rw [ha1]; exact rp_o hc
    have e5 : ∀ k, k ≤ z → a1 95 k = nI (jc G H i k) := fun k hk => by
      rw [ha1, rp_at, w1 k (by omega)]
      exact e4 k hk
    have l1 : ld a1 95 0 = some (nI (jc G H i 0)) := (ld_in (k := 0) rfl (by decide) (by decide)).trans (congrArg some (e5 0 (by omega)))
    have s1 : ∀ v, sd a1 94 0 v = some (mw a1 94 0 v) := fun v => sd_in (k := 0) rfl (by decide) (by decide)
    have ec : ∀ c, c ≠ 94 → c ≠ 95 → (mw a1 94 0 (nI (jc G H i 0 + G i))) c = a c := fun c c1 c2 => by rw [mw_o c1, o1 c c2]
    obtain ⟨a2, z1, z2, z3⟩ := jo71 (b := b) (f := f) (g := g) (G := G) (H := H) (k := F_U_joinCost_38 m) (x5 := nI i) (show i < y by omega) z 0 gF (mw a1 94 0 (nI (jc G H i 0 + G i))) (HB_c h ec) (HB_c hf ec) (by omega) (by rw [gF_eq]; omega) e5 (fun k hk => by
      have : k = 0 := by omega
      subst this
      rw [mw_y]
      rfl)
    have z1 : F_U_joinCost_71 (F_U_joinCost_38 m) gF (nI f) (nI g) (nI z) (nI i) (nI (G i)) 1 (mw a1 94 0 (nI (jc G H i 0 + G i))) = _ := z1
    have ec2 : ∀ c, c ≠ 94 → c ≠ 95 → a2 c = a c := fun c c1 c2 => (z3 c c1).trans (ec c c1 c2)
    obtain ⟨a3, y1, y2⟩ := ih (i + 1) m a2 (HB_c h ec2) (HB_c hf ec2) (by omega) (by omega) z2
    refine ⟨a3, ?_, fun c c1 c2 => (y2 c c1 c2).trans (ec2 c c1 c2)⟩
    rw [nI_1] at z1
    rw [← y1, ← z1]
    simp only [F_U_joinCost_38, (HB_sz hf).1, Option.bind_some, if_neg (show ¬ nI y ≤ nI i from nI_ge (by omega) (by omega)), (HB_at hf (show i < y by omega)).1, w2, l1, nI_add, s1]
theorem jo13 {b : Mem} {f g y z : Nat} {G H : Nat → Nat} : ∀ (q j m : Nat) (a : Mem), HB a b g z H → HB a b f y G → j + 1 + q = z + 1 → q < m → (∀ k, k ≤ j → a 94 k = nI (j0 H k)) → ∃ a', F_U_joinCost_13 m (nI f) (nI g) (nI z) (nI (j + 1)) a = some (nI (jc G H y z), a') ∧ ∀ c, c ≠ 94 → c ≠ 95 → a' c = a c := by
  intro q
  induction q with
  | zero =>
    intro j m a h hf hj hm e4
    obtain ⟨m, rfl⟩ : ∃ k, m = k + 1 := ⟨m - 1, by omega⟩
    have z16 := h.2.2.1
    have y16 := hf.2.2.1
    obtain ⟨a', z1, z2⟩ := jo38 y 0 gF a h hf (Nat.zero_add y) (by rw [gF_eq]; omega) (fun k hk => e4 k (by omega))
    have z1 : F_U_joinCost_38 gF (nI f) (nI g) (nI z) 0 a = _ := z1
    refine ⟨a', ?_, z2⟩
    simp only [F_U_joinCost_13, if_pos (show nI z < nI (j + 1) from nI_lt (by omega) (by omega)), z1]
  | succ q ih =>
    intro j m a h hf hj hm e4
    obtain ⟨m, rfl⟩ : ∃ k, m = k + 1 := ⟨m - 1, by omega⟩
    have z16 := h.2.2.1
    have ep : nI (j + 1) - 1 = nI j := nI_pred j
    have l2 : ld a 94 (nI j) = some (nI (j0 H j)) := (ld_in rfl (show j < 17 by omega) (by decide)).trans (congrArg some (e4 _ (by omega)))
    have w1 : ∀ v, sd a 94 (nI (j + 1)) v = some (mw a 94 (j + 1) v) := fun v => sd_in rfl (show j + 1 < 17 by omega) (by decide)
    obtain ⟨a', z1, z2⟩ := ih (j + 1) m (mw a 94 (j + 1) (nI (j0 H j + H j))) (HB_c h (fun c c1 _ => mw_o c1)) (HB_c hf (fun c c1 _ => mw_o c1)) (by omega) (by omega) (fun k hk => by
      by_cases c : k = j + 1
      · rw [c, mw_y]
        rfl
      · rw [mw_n c]
        exact e4 k (by omega))
    refine ⟨a', ?_, fun c c1 c2 => (z2 c c1 c2).trans (mw_o c1)⟩
    rw [← z1]
    simp only [F_U_joinCost_13, if_neg (show ¬ nI z < nI (j + 1) from nI_nlt (by omega) (by omega)), ep, l2, (HB_at h (show j < z by omega)).1, Option.bind_some, nI_add, w1, nI_1]
theorem jo_p {a b : Mem} {f g y z : Nat} {G H : Nat → Nat} (h : HB a b g z H) (hf : HB a b f y G) : ∃ a', F_U_joinCost (nI f) (nI g) a = some (nI (jc G H y z), a') ∧ ∀ c, c ≠ 94 → c ≠ 95 → a' c = a c := by
  have z16 := h.2.2.1
  have w1 : sd a 94 0 0 = some (mw a 94 0 0) := sd_in (k := 0) rfl (by decide) (by decide)
  obtain ⟨a', z1, z2⟩ := jo13 (G := G) (H := H) z 0 gF (mw a 94 0 0) (HB_c h (fun c c1 _ => mw_o c1)) (HB_c hf (fun c c1 _ => mw_o c1)) (by omega) (by rw [gF_eq]; omega) (fun k hk => by
    have : k = 0 := by omega
    subst this
    rfl)
  have z1 : F_U_joinCost_13 gF (nI f) (nI g) (nI z) 1 (mw a 94 0 0) = _ := z1
  refine ⟨a', ?_, fun c c1 c2 => (z2 c c1 c2).trans (mw_o c1)⟩
  simp only [F_U_joinCost, (HB_sz h).1, Option.bind_some, C_min, if_neg (show ¬ (16 : Int32) < nI z from nI_nlt (a := 16) z16 (by decide)), w1, z1]
