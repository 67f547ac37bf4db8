/-! ===== unheard: the reference's table; the call ===== -/
def fr (x : Nat) : Int32 := if x = 1000000 then 100000000 else nI x
def smF (B x : Nat) : Prop := x = 1000000 ∨ x ≤ B
theorem fr_s {x : Nat} (h : x ≤ 5000) : fr x = nI x := if_neg (by omega)
theorem fr_f : fr 1000000 = nI 100000000 := if_pos rfl
theorem fr_l {x y w : Nat} (hx : smF 4000 x) (hy : smF 4000 y) (w1 : 1 ≤ w) (w2 : w ≤ 101) : (if fr y + nI w ≤ fr x then fr y + nI w else fr x) = fr (mn x (y + w)) := by
  unfold mn
  rcases hx with rfl | hx
  · rcases hy with rfl | hy
    · rw [if_neg (show ¬ 1000000 + w < 1000000 by omega), fr_f, nI_add, if_neg (nI_ge (by omega) (by omega))]
    · rw [if_pos (show y + w < 1000000 by omega), fr_f, fr_s (by omega), nI_add, fr_s (by omega), if_pos (nI_le (by omega) (by decide))]
  · rcases hy with rfl | hy
    · rw [if_neg (show ¬ 1000000 + w < x by omega), fr_f, fr_s (x := x) (by omega), nI_add, if_neg (nI_ge (by omega) (by omega))]
    · rw [fr_s (x := y) (by omega), fr_s (x := x) (by omega), nI_add]
      by_cases c : y + w < x
      · rw [if_pos c, if_pos (nI_le (by omega) (by omega)), fr_s (by omega)]
      · rw [if_neg c, fr_s (x := x) (by omega)]
        by_cases c2 : y + w = x
        · rw [c2, if_pos (nI_le (Nat.le_refl x) (by omega))]
        · rw [if_neg (nI_ge (by omega) (by omega))]
theorem fr_0 {x y : Nat} (hx : smF 4000 x) (hy : smF 4000 y) : (if fr y ≤ fr x then fr y else fr x) = fr (mn x y) := by
  unfold mn
  rcases hx with rfl | hx
  · rcases hy with rfl | hy
    · rw [if_neg (show ¬ 1000000 < 1000000 by omega)]
      split <;> rfl
    · rw [if_pos (show y < 1000000 by omega), fr_f, fr_s (by omega), if_pos (nI_le (by omega) (by decide))]
  · rcases hy with rfl | hy
    · rw [if_neg (show ¬ 1000000 < x by omega), fr_f, fr_s (x := x) (by omega), if_neg (nI_ge (by omega) (by omega))]
    · rw [fr_s (x := y) (by omega), fr_s (x := x) (by omega)]
      by_cases c : y < x
      · rw [if_pos c, if_pos (nI_le (by omega) (by omega)), fr_s (by omega)]
      · rw [if_neg c, fr_s (x := x) (by omega)]
        by_cases c2 : y = x
        · rw [c2, if_pos (nI_le (Nat.le_refl x) (by omega))]
        · rw [if_neg (nI_ge (by omega) (by omega))]
theorem sm_mn {B x y : Nat} (hx : smF B x) (hy : smF B y) : smF B (mn x y) := by
  rcases mn_at x y with e | e <;> rw [e] <;> assumption
theorem sm_mo {B C x : Nat} (h : smF B x) (hc : B ≤ C) : smF C x := by
  rcases h with e | e
  · exact Or.inl e
  · exact Or.inr (by omega)
/-- the least of what he paid is far, or little -/
theorem sm_eD {W : Nat → Nat → Nat} {D : Nat → Nat} {i : Nat} (hW : ∀ k, W i k ≤ 101) (hD : ∀ p, p ≤ i → smF (101 * p) (D p)) : ∀ k, k ≤ i + 1 → smF (101 * (i + 1)) (mns (eD W D i) k)
  | 0, _ => Or.inl rfl
  | k + 1, hk => by
    have ih := sm_eD hW hD k (by omega)
    have hw := hW (k + 1)
    have e : eD W D i k = D (i - k) + W i (k + 1) := rfl
    have hf := mns_far (eD W D i) k
    show smF _ (mn (mns (eD W D i) k) (eD W D i k))
    rcases hD (i - k) (by omega) with q | q
    · have : mn (mns (eD W D i) k) (eD W D i k) = mns (eD W D i) k := if_neg (by omega)
      rw [this]
      exact ih
    · exact sm_mn ih (Or.inr (by omega))
noncomputable def unX (k46 : Int32 → Int32 → Int32 → Int32 → Int32 → Int32 → Int32 → Mem → Option (Int32 × Mem)) (x1 x2 x3 x4 x5 x6 x7 x8 : Int32) (b : Mem) : Option (Int32 × Mem) :=
  (sd b 145 (x7 + 1) x8).bind fun s1 =>
  if (x7 + x3) < x5 then
    k46 x1 x2 x3 x4 x5 x6 (x7 + 1) s1
  else
  (F_R_lesser x6 x8 s1).bind fun z2 =>
  k46 x1 x2 x3 x4 x5 z2.1 (x7 + 1) z2.2
theorem eqW_B {b' b b0 : Mem} (h : eqB b' b) (k : eqW b b0) : eqW b' b0 := fun c c1 c2 c3 => (h c c1 c2).trans (k c c1 c2 c3)
theorem un53 {b0 : Mem} {f z i s : Nat} {w x4 x6 : Int32} {gn : Nat → Bool} {W : Nat → Nat → Nat} {D : Nat → Nat} {k46 : Int32 → Int32 → Int32 → Int32 → Int32 → Int32 → Int32 → Mem → Option (Int32 × Mem)} (hz : z ≤ 16) (hU : UM b0 f z w gn W) (hW : ∀ k, W i k ≤ 101) (hi : i < z) (hg : gn i = false) (hs : s ≤ 5) (hD : ∀ p, p ≤ i → smF (101 * p) (D p)) : ∀ (q k m : Nat) (b : Mem), k + q = least s i → q < m → eqW b b0 → (∀ p, p ≤ i → b 145 p = fr (D p)) → ∃ b', F_R_unheard_53 k46 m (nI f) w (nI s) x4 (nI z) x6 (nI i) (fr (mns (eD W D i) k)) (nI (k + 1)) b = unX k46 (nI f) w (nI s) x4 (nI z) x6 (nI i) (fr (mns (eD W D i) (least s i))) b' ∧ eqB b' b := by
  intro q
  induction q with
  | zero =>
    intro k m b hk hm eb hT
    obtain ⟨m, rfl⟩ : ∃ k, m = k + 1 := ⟨m - 1, by omega⟩
    have : k = least s i := by omega
    subst this
    refine ⟨b, ?_, eqB_rf b⟩
    by_cases c : s ≤ i + 1
    · have e : least s i = s := if_pos c
      simp only [F_R_unheard_53, e, if_pos (show nI s < nI (s + 1) from nI_lt (by omega) (by omega)), unX]
    · have e : least s i = i + 1 := if_neg c
      simp only [F_R_unheard_53, e, if_neg (show ¬ nI s < nI (i + 1 + 1) from nI_nlt (by omega) (by omega)), nI_1, if_pos (show nI (i + 1) < nI (i + 1 + 1) from nI_lt (by omega) (by omega)), unX]
  | succ q ih =>
    intro k m b hk hm eb hT
    obtain ⟨m, rfl⟩ : ∃ k, m = k + 1 := ⟨m - 1, by omega⟩
    have hl : k < s ∧ k < i + 1 := by
      unfold least at hk
      split at hk <;> omega
    obtain ⟨u1, u2⟩ := hU b i eb hi
    rw [hg, if_neg (by decide)] at u1
    obtain ⟨v, b1, v1, v2, v3⟩ := u2 (k + 1)
    have es : nI (i + 1) - nI (k + 1) = nI (i - k) := by
      rw [n_sub (by omega)]
      congr 1
      omega
    have l1 : ld b 145 (nI (i - k)) = some (fr (D (i - k))) := (ld_in rfl (show i - k < 17 by omega) (by decide)).trans (congrArg some (hT _ (by omega)))
    have sd1 := sm_mo (sm_eD (W := W) hW hD k (by omega)) (show 101 * (i + 1) ≤ 4000 by omega)
    have sd2 := sm_mo (hD (i - k) (by omega)) (show 101 * (i - k) ≤ 4000 by omega)
    obtain ⟨b', y1, y2⟩ := ih (k + 1) m b1 (by omega) (by omega) (eqW_B v2 eb) (fun p hp => by rw [v2 145 (by decide) (by decide)]; exact hT p hp)
    refine ⟨b', ?_, eqB_tr y2 v2⟩
    rw [← y1]
    have g1 : ¬ nI s < nI (k + 1) := nI_nlt (by omega) (by omega)
    have g2 : ¬ nI (i + 1) < nI (k + 1) := nI_nlt (by omega) (by omega)
    have em : mns (eD W D i) (k + 1) = mn (mns (eD W D i) k) (D (i - k) + W i (k + 1)) := rfl
    rcases v3 with ⟨q1, q2⟩ | ⟨q1, q2⟩
    · subst q1
      have e1 : fr (D (i - k)) + 1 + 0 = fr (D (i - k)) + nI 1 := Int32.add_zero _
      have e2 := fr_l sd1 sd2 (w := 1) (by omega) (by omega)
      simp only [F_R_unheard_53, if_neg g1, nI_1, if_neg g2, n16, u1, Option.bind_some, if_true, es, l1, v1, e1, R_lesser, e2, em, q2]
    · subst q1
      have e1 : fr (D (i - k)) + 1 + 100 = fr (D (i - k)) + nI 101 := Int32.add_assoc _ _ _
      have e2 := fr_l sd1 sd2 (w := 101) (by omega) (by omega)
      simp only [F_R_unheard_53, if_neg g1, nI_1, if_neg g2, n16, u1, Option.bind_some, if_true, es, l1, v1, one0, if_false, e1, R_lesser, e2, em, q2]
theorem bsD_c {n s : Nat} {D D' : Nat → Nat} : ∀ i, (∀ p, p ≤ i → D p = D' p) → bsD n s D i = bsD n s D' i
  | 0, _ => rfl
  | i + 1, h => by
    show (if i + s < n then bsD n s D i else mn (bsD n s D i) (D (i + 1))) = (if i + s < n then bsD n s D' i else mn (bsD n s D' i) (D' (i + 1)))
    rw [bsD_c i (fun p hp => h p (by omega)), h (i + 1) (Nat.le_refl _)]
theorem sm_bs {n s : Nat} {D : Nat → Nat} (hn : n ≤ 16) (hD : ∀ p, p ≤ n → smF (101 * p) (D p)) : ∀ i, i ≤ n → smF 4000 (bsD n s D i)
  | 0, _ => by
    show smF 4000 (if n < s then 0 else 1000000)
    split
    · exact Or.inr (Nat.zero_le _)
    · exact Or.inl rfl
  | i + 1, hi => by
    have ih := sm_bs (s := s) hn hD i (by omega)
    show smF 4000 (if i + s < n then bsD n s D i else mn (bsD n s D i) (D (i + 1)))
    split
    · exact ih
    · exact sm_mn ih (sm_mo (hD (i + 1) hi) (by omega))
theorem un46 {b0 : Mem} {f z s : Nat} {w x4 : Int32} {gn : Nat → Bool} {W : Nat → Nat → Nat} (hz : z ≤ 16) (hU : UM b0 f z w gn W) (hW : ∀ i k, i < z → W i k ≤ 101) (hs : s ≤ 5) (hs1 : 1 ≤ s) : ∀ (q i m : Nat) (b : Mem) (D : Nat → Nat), i + q = z → q < m → eqW b b0 → D 0 = 0 → (∀ j, j < i → isD s gn W D j) → (∀ p, p ≤ i → smF (101 * p) (D p) ∧ b 145 p = fr (D p)) → ∃ (D' : Nat → Nat) (b' : Mem), F_R_unheard_46 m (nI f) w (nI s) x4 (nI z) (fr (bsD z s D i)) (nI i) b = some (if bsD z s D' z = 1000000 then -1 else if x4 = 0 then nI (bsD z s D' z) / 100 else irm (nI (bsD z s D' z)) 100, b') ∧ eqW b' b0 ∧ D' 0 = 0 ∧ ∀ j, j < z → isD s gn W D' j := by
  intro q
  induction q with
  | zero =>
    intro i m b D hi hm eb h0 hD hT
    obtain ⟨m, rfl⟩ : ∃ k, m = k + 1 := ⟨m - 1, by omega⟩
    have : i = z := by omega
    subst this
    have sb := sm_bs (s := s) hz (fun p hp => (hT p hp).1) i (Nat.le_refl i)
    refine ⟨D, b, ?_, eb, h0, hD⟩
    have g : nI i ≤ nI i := nI_le (Nat.le_refl i) (by omega)
    rcases sb with e | e
    · rw [e, if_pos rfl, fr_f]
      simp only [F_R_unheard_46, if_pos g, if_neg (show ¬ nI 100000000 < 100000000 from by decide)]
    · rw [if_neg (show ¬ bsD i s D i = 1000000 by omega), fr_s (by omega)]
      simp only [F_R_unheard_46, if_pos g, if_pos (show nI (bsD i s D i) < 100000000 from nI_lt (b := 100000000) (by omega) (by decide))]
      split <;> rfl
  | succ q ih =>
    intro i m b D hi hm eb h0 hD hT
    obtain ⟨m, rfl⟩ : ∃ k, m = k + 1 := ⟨m - 1, by omega⟩
    have hx : ∃ (d : Nat) (b1 : Mem), F_R_unheard_53 (F_R_unheard_46 m) gF (nI f) w (nI s) x4 (nI z) (fr (bsD z s D i)) (nI i) 100000000 1 b = unX (F_R_unheard_46 m) (nI f) w (nI s) x4 (nI z) (fr (bsD z s D i)) (nI i) (fr d) b1 ∧ eqB b1 b ∧ d = (if gn i then 1000000 else mns (eD W D i) (least s i)) ∧ smF (101 * (i + 1)) d := by
      cases hg : gn i with
      | true =>
        obtain ⟨u1, -⟩ := hU b i eb (by omega)
        rw [hg, if_pos rfl] at u1
        refine ⟨1000000, b, ?_, eqB_rf b, rfl, Or.inl rfl⟩
        obtain ⟨N, hN⟩ : ∃ N, gF = N + 1 := ⟨999999, gF_eq⟩
        have g1 : ¬ nI s < 1 := nI_nlt (b := 1) (by omega) (by omega)
        have g2 : ¬ nI (i + 1) < 1 := nI_nlt (b := 1) (by omega) (by omega)
        rw [hN]
        simp only [F_R_unheard_53, if_neg g1, nI_1, if_neg g2, n16, u1, Option.bind_some, one0, if_false, unX, fr_f]
        rfl
      | false =>
        obtain ⟨b1, z1, z2⟩ := un53 (D := D) (x4 := x4) (x6 := fr (bsD z s D i)) (k46 := F_R_unheard_46 m) hz hU (fun k => hW i k (by omega)) (show i < z by omega) hg hs (fun p hp => (hT p hp).1) (least s i) 0 gF b (Nat.zero_add _) (by
          rw [gF_eq]
          unfold least
          split <;> omega) eb (fun p hp => (hT p hp).2)
        refine ⟨mns (eD W D i) (least s i), b1, z1, z2, rfl, sm_eD (fun k => hW i k (by omega)) (fun p hp => (hT p hp).1) _ ?_⟩
        unfold least
        split <;> omega
    obtain ⟨d, b1, z1, z2, z3, z4⟩ := hx
    obtain ⟨D1, hD1⟩ : ∃ D1 : Nat → Nat, D1 = fun p => if p = i + 1 then d else D p := ⟨_, rfl⟩
    have d1 : ∀ p, p ≤ i → D p = D1 p := fun p hp => by rw [hD1]; exact (if_neg (by omega)).symm
    have d2 : D1 (i + 1) = d := by rw [hD1]; exact if_pos rfl
    have w1 : ∀ v, sd b1 145 (nI (i + 1)) v = some (mw b1 145 (i + 1) v) := fun v => sd_in rfl (show i + 1 < 17 by omega) (by decide)
    have b145 := z2 145 (by decide) (by decide)
    have isd : ∀ j, j < i + 1 → isD s gn W D1 j := fun j hj => by
      have hc : ∀ k, k < least s j → eD W D j k = eD W D1 j k := fun k _ => by
        unfold eD
        rw [d1 (j - k) (by omega)]
      unfold isD
      rw [← mns_c (least s j) hc]
      by_cases c : j = i
      · subst c
        rw [d2, z3]
      · rw [← d1 (j + 1) (by omega)]
        exact hD j (by omega)
    have tab : ∀ p, p ≤ i + 1 → smF (101 * p) (D1 p) ∧ (mw b1 145 (i + 1) (fr d)) 145 p = fr (D1 p) := fun p hp => by
      by_cases c : p = i + 1
      · rw [c, d2, mw_y]
        exact ⟨z4, rfl⟩
      · rw [mw_n c, b145, ← d1 p (by omega)]
        exact hT p (by omega)
    obtain ⟨D', b', y1, y2, y3⟩ := ih (i + 1) m (mw b1 145 (i + 1) (fr d)) D1 (by omega) (by omega) (fun c c1 c2 c3 => by rw [mw_o c3]; exact eqW_B z2 eb c c1 c2 c3) (by rw [← d1 0 (Nat.zero_le i)]; exact h0) isd tab
    refine ⟨D', b', ?_, y2, y3⟩
    rw [← y1]
    have g : ¬ nI z ≤ nI i := nI_ge (by omega) (by omega)
    have sb : smF 4000 (bsD z s D i) := by
      rcases bs_at (n := z) (s := s) h0 i with e | ⟨p, p1, p2, p3⟩
      · exact Or.inl e
      · rw [p3]
        exact sm_mo (hT p p1).1 (by omega)
    have ebs : bsD z s D1 (i + 1) = if i + s < z then bsD z s D i else mn (bsD z s D i) d := by
      show (if i + s < z then bsD z s D1 i else mn (bsD z s D1 i) (D1 (i + 1))) = _
      rw [← bsD_c i d1, d2]
    rw [ebs]
    simp only [F_R_unheard_46, if_neg g, z1, unX, nI_1, w1, Option.bind_some, nI_add]
    by_cases c : i + s < z
    · rw [if_pos c, if_pos (nI_lt c (by omega))]
    · rw [if_neg c, if_neg (nI_nlt (by omega) (by omega)), R_lesser, fr_0 sb (sm_mo z4 (by omega))]
      rfl
