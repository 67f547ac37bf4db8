/-! ===== mutiny: the class begins; the reference ===== -/
def begS (f X i : Nat) : Nat → Bool := fun m => decide (m / 16 = f) && (decide (m % 16 < i) && X.testBit (m % 16))
theorem beg_s (f X i m : Nat) (hi : i < 16) : begS f X (i + 1) m = (begS f X i m || (decide (m = 16 * f + i) && X.testBit i)) := by
  unfold begS
  by_cases c : m = 16 * f + i
  · have c1 : m / 16 = f := by omega
    have c2 : m % 16 = i := by omega
    rw [decide_eq_true c1, c2, decide_eq_true (show i < i + 1 by omega), decide_eq_true c, decide_eq_false (Nat.lt_irrefl i)]
    cases X.testBit i <;> rfl
  · rw [decide_eq_false c, Bool.false_and, Bool.or_false]
    by_cases c1 : m / 16 = f
    · rw [decide_eq_decide.mpr (show m % 16 < i + 1 ↔ m % 16 < i by omega)]
    · rw [decide_eq_false c1, Bool.false_and, Bool.false_and]
theorem fb_0 : ∀ n, fb_ct (fun _ => false) n = 0 := by
  intro n
  induction n with
  | zero => rfl
  | succ n ih => rw [fb_s, ih]; rfl
theorem ds_0 {A B : Nat → Nat} {s : Nat} : ∀ l, dsD A B (fun _ => 0) s l = 0 := by
  intro l
  induction l with
  | zero => rfl
  | succ l ih =>
    show dsD A B (fun _ => 0) s l + (bif nwD A B l s then 0 else 0) = 0
    rw [ih]
    cases nwD A B l s <;> rfl
theorem bes_0 {A B z : Nat → Nat} {nl s : Nat} : besD A B z (fun _ => 0) nl s = 0 := by
  unfold besD
  rw [ds_0]
  split <;> split <;> rfl
theorem mu9 {a0 : Mem} {n nl f X : Nat} {z rk A B : Nat → Nat} (hM : MW a0 n z rk A B nl) (hf : f < n) (hX : X < 65536) (hv : ∀ i, i < z f → X.testBit i = true → ¬ a0 3 (384 + (16 * f + i)) = 2) : ∀ (q i fu : Nat) (a : Mem) (inQ : Nat → Bool) (qf : Nat → Nat) (len : Nat), i + q = z f → q < fu → WS a0 a n z rk (begS f X i) inQ qf (fun _ => 0) len → ∃ (C : Nat → Bool) (a' : Mem), F_U_mutineers_9 fu (nI f) (nI X) (nI i) a = some (nI (fb_ct C 96), a') ∧ eqWq a' a0 ∧ endD a0 n z rk A B nl (begS f X (z f)) C := by
  have hz := hM.1
  have f6 : f < 6 := by have := hz.1; omega
  have z16 := (hz.2 f hf).2
  intro q
  induction q with
  | zero =>
    intro i fu a inQ qf len hi hfu hW
    obtain ⟨fu, rfl⟩ : ∃ k, fu = k + 1 := ⟨fu - 1, by omega⟩
    have ei : i = z f := by omega
    subst ei
    have hMa := MW_t hM hW.1
    have hs := H_size (s := a) (h0 := 2) (c := 4) rfl rfl rfl rfl f6
    rw [hMa.2.1.2 f hf] at hs
    have e0 : ckQ qf 0 = fun _ => 0 := rfl
    obtain ⟨C, a', k1, k2, k3⟩ := mu33 (S := begS f X (z f)) hM 96 0 gF a inQ qf len (by omega) (by rw [gF_eq]; omega) (Nat.zero_le _) (WS_c hW (fun m _ => by show besD A B z (ckQ qf 0) nl m = 0; rw [e0]; exact bes_0)) (fun K hK m hm => by
      have vm := hW.2.2.1 m hm
      have h4 := hW.2.2.2.1 m vm
      rw [hm] at h4
      have h4 := h4.symm
      rw [Bool.or_eq_true] at h4
      rcases h4 with c | c
      · exact hK.1 m vm c
      · have c : wlN (rk m) ≤ 0 := of_decide_eq_true c
        have := wlN_1 (rk m)
        omega)
    refine ⟨C, a', ?_, k2, k3⟩
    rw [F_U_mutineers_9, hs]
    simp only [Option.bind_some, if_pos (show nI (z f) ≤ nI (z f) from nI_le (Nat.le_refl _) (by omega))]
    exact k1
  | succ q ih =>
    intro i fu a inQ qf len hi hfu hW
    obtain ⟨fu, rfl⟩ : ∃ k, fu = k + 1 := ⟨fu - 1, by omega⟩
    have hMa := MW_t hM hW.1
    have hs := H_size (s := a) (h0 := 2) (c := 4) rfl rfl rfl rfl f6
    rw [hMa.2.1.2 f hf] at hs
    have g1 : ¬ nI (z f) ≤ nI i := nI_ge (by omega) (by omega)
    have nb := n_bit (a := X) (k := i) (by omega) (by omega)
    obtain ⟨h1, h2, h3, h4, h5⟩ := hW
    by_cases cb : X.testBit i = true
    · rw [if_pos cb] at nb
      have nb : (shr (nI X) (nI i)) &&& 1 = 1 := nb
      have em : nI f * 16 + nI i = nI (16 * f + i) := by
        rw [show (16 : Int32) = nI 16 from rfl, n_mul, nI_add, Nat.mul_comm]
      have m96 : 16 * f + i < 96 := by omega
      have vm : vmD a0 n z (16 * f + i) := ⟨⟨by rw [show (16 * f + i) / 16 = f by omega]; exact hf, by rw [show (16 * f + i) / 16 = f by omega, show (16 * f + i) % 16 = i by omega]; omega⟩, hv i (by omega) cb⟩
      have ci : inQ (16 * f + i) = false := by
        rw [h4 _ vm]
        have w1 := wlN_1 (rk (16 * f + i))
        rw [decide_eq_false (show ¬ wlN (rk (16 * f + i)) ≤ 0 by omega), Bool.or_false]
        unfold begS
        rw [decide_eq_false (show ¬ (16 * f + i) % 16 < i by omega), Bool.false_and, Bool.and_false]
      have len96 : len < 96 := by rw [h2.2.1]; exact fb_lt 96 m96 ci
      have eb := bgE (a := a) m96 len96 h2.1
      have red : F_U_mutineers_9 (fu + 1) (nI f) (nI X) (nI i) a = F_U_mutineers_9 fu (nI f) (nI X) (nI (i + 1)) (mw (mw (mw a 98 (16 * f + i) 1000000) 99 len (nI (16 * f + i))) 90 7 (nI (len + 1))) := by
        rw [F_U_mutineers_9, hs]
        simp only [Option.bind_some, if_neg g1, nb, if_true, em, eb, nI_1]
      rw [red]
      refine ih (i + 1) fu _ _ _ (len + 1) (by omega) (by omega) ⟨fun c c1 c2 c3 => ?_, QS_add h2 ci m96 (by simp [mw]) (by simp [mw]) (fun j hj => by simp [mw]; omega), fun y hy => ?_, fun y hy => ?_, fun y hy => ?_⟩
      · rw [mw_o c1, mw_o c3, mw_o c2]
        exact h1 c c1 c2 c3
      · have hy : (decide (y = 16 * f + i) || inQ y) = true := hy
        rw [Bool.or_eq_true] at hy
        rcases hy with k | k
        · rw [of_decide_eq_true k]; exact vm
        · exact h3 y k
      · show (decide (y = 16 * f + i) || inQ y) = _
        rw [beg_s f X i y (by omega), cb, Bool.and_true, h4 y hy]
        cases decide (y = 16 * f + i) <;> cases begS f X i y <;> rfl
      · obtain ⟨d1, d2, d3⟩ := h5 y hy
        show _ ∧ ((decide (y = 16 * f + i) || inQ y) = false → _) ∧ ((decide (y = 16 * f + i) || inQ y) = true → _)
        by_cases cy : y = 16 * f + i
        · rw [decide_eq_true cy, Bool.true_or]
          exact ⟨by omega, fun k => absurd k (by decide), fun _ => ⟨0, Nat.le_refl 0, by rw [cy]; simp [mw]; rfl⟩⟩
        · rw [decide_eq_false cy, Bool.false_or, show (mw (mw (mw a 98 (16 * f + i) 1000000) 99 len (nI (16 * f + i))) 90 7 (nI (len + 1))) 98 y = a 98 y by simp [mw, cy]]
          exact ⟨d1, d2, d3⟩
    · rw [if_neg cb] at nb
      have nb : (shr (nI X) (nI i)) &&& 1 = 0 := nb
      have cb' : X.testBit i = false := by cases hq : X.testBit i with | true => exact absurd hq cb | false => rfl
      have red : F_U_mutineers_9 (fu + 1) (nI f) (nI X) (nI i) a = F_U_mutineers_9 fu (nI f) (nI X) (nI (i + 1)) a := by
        rw [F_U_mutineers_9, hs]
        simp only [Option.bind_some, if_neg g1, nb, if_neg (show ¬ (0 : Int32) = 1 by decide), nI_1]
      rw [red]
      have eS : begS f X (i + 1) = begS f X i := by
        funext y
        rw [beg_s f X i y (by omega), cb', Bool.and_false, Bool.or_false]
      exact ih (i + 1) fu a inQ qf len (by omega) (by omega) (by rw [eS]; exact ⟨h1, h2, h3, h4, h5⟩)
theorem mu_p {a : Mem} {n nl f X : Nat} {z rk A B : Nat → Nat} (hM : MW a n z rk A B nl) (hf : f < n) (hX : X < 65536) (hv : ∀ i, i < z f → X.testBit i = true → ¬ a 3 (384 + (16 * f + i)) = 2) : ∃ (C : Nat → Bool) (a' : Mem), F_U_mutineers (nI f) (nI X) a = some (nI (fb_ct C 96), a') ∧ eqWq a' a ∧ endD a n z rk A B nl (begS f X (z f)) C := by
  have hfi := fiE 98 96 0 a rfl rfl (by decide) rfl
  obtain ⟨C, a', k1, k2, k3⟩ := mu9 hM hf hX hv (z f) 0 gF (mw (rp a 98 (fun i => if 0 ≤ i ∧ i < 96 then 0 else a 98 i)) 90 7 0) (fun _ => false) (fun _ => 0) 0 (by omega) (by have := (hM.1.2 f hf).2; rw [gF_eq]; omega) ⟨fun c c1 c2 _ => by rw [mw_o c1, rp_o c2], ⟨by simp [mw]; rfl, (fb_0 96).symm, fun j hj => absurd hj (Nat.not_lt_zero j), fun m => ⟨fun k => absurd k Bool.false_ne_true, fun ⟨j, hj, _⟩ => absurd hj (Nat.not_lt_zero j)⟩, fun i j _ hj => absurd hj (Nat.not_lt_zero j)⟩, fun m hm => absurd hm Bool.false_ne_true, fun m hm => by
      have w1 := wlN_1 (rk m)
      rw [decide_eq_false (show ¬ wlN (rk m) ≤ 0 by omega), Bool.or_false]
      unfold begS
      rw [decide_eq_false (show ¬ m % 16 < 0 by omega), Bool.false_and, Bool.and_false], fun m hm => ⟨Nat.zero_le _, fun _ => by
      have m96 := (hs_96 hM.1 hm.1).1
      show (mw (rp a 98 (fun i => if 0 ≤ i ∧ i < 96 then 0 else a 98 i)) 90 7 0) 98 m = nI 0
      rw [mw_o (by decide), rp_at, if_pos ⟨Nat.zero_le m, m96⟩]
      rfl, fun k => absurd k Bool.false_ne_true⟩⟩
  refine ⟨C, a', ?_, k2, k3⟩
  rw [F_U_mutineers, hfi]
  exact k1
/-! the reference -/
def rdD (v : Nat) : Int32 := if v < 96 then nI v else -1
theorem rd_eq {u v : Nat} (hu : u ≤ 96) (hv : v ≤ 96) : rdD u = rdD v ↔ u = v := by
  unfold rdD
  by_cases c : u < 96
  · by_cases d : v < 96
    · rw [if_pos c, if_pos d, nI_eq (by omega) (by omega)]
    · rw [if_pos c, if_neg d]
      exact ⟨fun q => absurd q (nI_m1 (by omega)), fun q => by omega⟩
  · by_cases d : v < 96
    · rw [if_neg c, if_pos d]
      exact ⟨fun q => absurd q.symm (nI_m1 (by omega)), fun q => by omega⟩
    · rw [if_neg c, if_neg d]
      exact ⟨fun _ => by omega, fun _ => rfl⟩
def MRf (a0 b : Mem) (n : Nat) (z rk A B : Nat → Nat) (nl : Nat) : Prop := szOK n z ∧ mSz b n z ∧ (∀ s, s < 96 → rk s ≤ 9 ∧ b 124 (197 + s) = nI (rk s) ∧ b 124 (293 + s) = a0 3 (384 + s)) ∧ nl ≤ 16 ∧ b 123 37 = nI nl ∧ okDr A B nl ∧ ∀ l, l < nl → b 142 (2 * l) = nI (A l) ∧ b 142 (2 * l + 1) = nI (B l)
theorem doE {a0 b : Mem} {n nl l t : Nat} {z rk A B : Nat → Nat} (hM : MRf a0 b n z rk A B nl) (hl : l < nl) (ht : t < 96) : F_R_doorOther (nI l) (nI t) b = some (rdD (othD A B l t), b) := by
  obtain ⟨-, -, -, n16', -, hok, hL⟩ := hM
  obtain ⟨e0, e1⟩ := hL l hl
  obtain ⟨o1, o2, o3⟩ := hok l hl
  have p0 : (2 : Int32) * nI l = nI (2 * l) := by rw [show (2 : Int32) = nI 2 from rfl, n_mul]
  have l0 : ld b 142 (nI (2 * l)) = some (nI (A l)) := (ld_in rfl (show 2 * l < 64 by omega) (by decide)).trans (congrArg some e0)
  have l1 : ld b 142 (nI (2 * l + 1)) = some (nI (B l)) := (ld_in rfl (show 2 * l + 1 < 64 by omega) (by decide)).trans (congrArg some e1)
  simp only [F_R_doorOther, p0, nI_1, l0, l1, Option.bind_some]
  unfold othD rdD
  by_cases c1 : A l = t
  · rw [if_pos (by rw [c1]), if_pos c1, if_pos o2]
  · rw [if_neg (fun q => c1 ((nI_eq (by omega) (by omega)).mp q)), if_neg c1]
    by_cases c2 : B l = t
    · rw [if_pos (by rw [c2]), if_pos c2, if_pos o1]
    · rw [if_neg (fun q => c2 ((nI_eq (by omega) (by omega)).mp q)), if_neg c2, if_neg (by decide)]
theorem mb54 {a0 b : Mem} {n nl l t : Nat} {z rk A B : Nat → Nat} {x3 : Int32} {k36 : Int32 → Int32 → Int32 → Mem → Option (Int32 × Mem)} (hM : MRf a0 b n z rk A B nl) (hl : l < nl) (ht : t < 96) : ∀ (q i fu : Nat), i + q = l → q < fu → F_R_mutinousBeside_54 k36 fu (nI t) x3 (nI l) (rdD (othD A B l t)) (if (decide (othD A B l t < 96) && !seenD A B t (othD A B l t) i) = true then 1 else 0) (nI i) b = if nwD A B l t = true then (ld b 151 (rdD (othD A B l t))).bind fun v1 => k36 (nI t) (x3 + v1) (nI (l + 1)) b else k36 (nI t) x3 (nI (l + 1)) b := by
  have l16 : nl ≤ 16 := hM.2.2.2.1
  have hok := hM.2.2.2.2.2.1
  intro q
  induction q with
  | zero =>
    intro i fu hi hfu
    obtain ⟨fu, rfl⟩ : ∃ k, fu = k + 1 := ⟨fu - 1, by omega⟩
    have ei : i = l := by omega
    subst ei
    rw [F_R_mutinousBeside_54, if_pos (nI_le (Nat.le_refl i) (by omega)), nI_1]
    show (if (if nwD A B i t = true then (1 : Int32) else 0) = 0 then _ else _) = _
    by_cases c : nwD A B i t = true
    · rw [if_pos c, if_neg (by decide), if_pos c]
    · rw [if_neg c, if_pos rfl, if_neg c]
  | succ q ih =>
    intro i fu hi hfu
    obtain ⟨fu, rfl⟩ : ∃ k, fu = k + 1 := ⟨fu - 1, by omega⟩
    have hi2 := ih (i + 1) fu (by omega) (by omega)
    rw [← hi2, F_R_mutinousBeside_54, if_neg (nI_ge (show i < l by omega) (by omega)), doE hM (show i < nl by omega) ht]
    simp only [Option.bind_some, nI_1]
    have es : seenD A B t (othD A B l t) (i + 1) = (seenD A B t (othD A B l t) i || decide (othD A B i t = othD A B l t)) := rfl
    have eq1 := rd_eq (oth_le (t := t) hok (show i < nl by omega)) (oth_le (t := t) hok hl)
    by_cases co : othD A B i t = othD A B l t
    · rw [if_pos (eq1.mpr co), es, decide_eq_true co, Bool.or_true, Bool.not_true, Bool.and_false]
      rfl
    · rw [if_neg (fun k => co (eq1.mp k)), es, decide_eq_false co, Bool.or_false]
theorem mb36 {a0 b : Mem} {n nl t c : Nat} {z rk A B C : Nat → Nat} (hM : MRf a0 b n z rk A B nl) (ht : t < 96) (hC : ∀ m, m < 96 → b 151 m = nI (C m)) : ∀ (q l fu : Nat), l + q = nl → q < fu → F_R_mutinousBeside_36 fu (nI t) (nI (c + dsD A B C t l)) (nI l) b = some (nI (c + dsD A B C t nl), b) := by
  have l16 : nl ≤ 16 := hM.2.2.2.1
  intro q
  induction q with
  | zero =>
    intro l fu hl hfu
    obtain ⟨fu, rfl⟩ : ∃ k, fu = k + 1 := ⟨fu - 1, by omega⟩
    have el : l = nl := by omega
    subst el
    rw [F_R_mutinousBeside_36, hM.2.2.2.2.1, if_pos (nI_le (Nat.le_refl _) (by omega))]
  | succ q ih =>
    intro l fu hl hfu
    obtain ⟨fu, rfl⟩ : ∃ k, fu = k + 1 := ⟨fu - 1, by omega⟩
    have hi2 := ih (l + 1) fu (by omega) (by omega)
    have h54 := mb54 (x3 := nI (c + dsD A B C t l)) (k36 := F_R_mutinousBeside_36 fu) hM (show l < nl by omega) ht l 0 gF (by omega) (by rw [gF_eq]; omega)
    have es : dsD A B C t (l + 1) = dsD A B C t l + (bif nwD A B l t then C (othD A B l t) else 0) := rfl
    rw [← hi2, F_R_mutinousBeside_36, hM.2.2.2.2.1, if_neg (nI_ge (show l < nl by omega) (by omega)), doE hM (show l < nl by omega) ht]
    simp only [Option.bind_some]
    have goal1 : F_R_mutinousBeside_54 (F_R_mutinousBeside_36 fu) gF (nI t) (nI (c + dsD A B C t l)) (nI l) (rdD (othD A B l t)) (if (decide (othD A B l t < 96) && !seenD A B t (othD A B l t) 0) = true then 1 else 0) (nI 0) b = F_R_mutinousBeside_36 fu (nI t) (nI (c + dsD A B C t (l + 1))) (nI (l + 1)) b := by
      rw [h54, es]
      by_cases cn : nwD A B l t = true
      · have cv : othD A B l t < 96 := by
          unfold nwD at cn
          rw [Bool.and_eq_true] at cn
          exact of_decide_eq_true cn.1
        rw [if_pos cn, cn, show rdD (othD A B l t) = nI (othD A B l t) from if_pos cv]
        have lv : ld b 151 (nI (othD A B l t)) = some (nI (C (othD A B l t))) := (ld_in rfl (show othD A B l t < 96 from cv) (by decide)).trans (congrArg some (hC _ cv))
        rw [lv]
        simp only [Option.bind_some, cond_true, nI_add, Nat.add_assoc]
      · rw [if_neg cn]
        have cn' : nwD A B l t = false := by cases hq : nwD A B l t with | true => exact absurd hq cn | false => rfl
        rw [cn']
        rfl
    by_cases cv : othD A B l t < 96
    · have er : rdD (othD A B l t) = nI (othD A B l t) := if_pos cv
      rw [if_neg (by rw [er]; exact nI_m1 (by omega))]
      have e1 : (decide (othD A B l t < 96) && !seenD A B t (othD A B l t) 0) = true := by rw [decide_eq_true cv]; rfl
      rw [if_pos e1] at goal1
      exact goal1
    · rw [if_pos (show rdD (othD A B l t) = -1 from if_neg cv)]
      have e1 : ¬ (decide (othD A B l t < 96) && !seenD A B t (othD A B l t) 0) = true := by rw [decide_eq_false cv, Bool.false_and]; exact Bool.false_ne_true
      rw [if_neg e1] at goal1
      exact goal1
theorem mb_p {a0 b : Mem} {n nl t : Nat} {z rk A B C : Nat → Nat} (hM : MRf a0 b n z rk A B nl) (ht : hsD n z t) (hC : ∀ m, m < 96 → b 151 m = nI (C m)) (hC1 : ∀ m, C m ≤ 1) : F_R_mutinousBeside (nI t) b = some (nI (besD A B z C nl t), b) := by
  obtain ⟨t96, z16⟩ := hs_96 hM.1 ht
  have d1 : nI t / 16 = nI (t / 16) := by rw [show (16 : Int32) = nI 16 from rfl, n_div (by omega) (by decide) (by decide)]
  have d2 : irm (nI t) 16 = nI (t % 16) := by rw [show (16 : Int32) = nI 16 from rfl, n_irm (by omega) (by decide) (by decide)]
  have lz : ld b 127 (nI (t / 16)) = some (nI (z (t / 16))) := (ld_in rfl (show t / 16 < 6 by omega) (by decide)).trans (congrArg some (hM.2.1.2 _ ht.1))
  have zm1 : nI (z (t / 16)) - 1 = nI (z (t / 16) - 1) := by
    have := ht.2
    obtain ⟨k, hk⟩ : ∃ k, z (t / 16) = k + 1 := ⟨z (t / 16) - 1, by omega⟩
    rw [hk, nI_pred]
    rfl
  have fin : ∀ c, F_R_mutinousBeside_36 gF (nI t) (nI c) 0 b = some (nI (c + dsD A B C t nl), b) := fun c => mb36 (c := c) hM t96 hC nl 0 gF (by omega) (by have := hM.2.2.2.1; rw [gF_eq]; omega)
  have up : t % 16 + 1 < z (t / 16) → ld b 151 (nI t + 1) = some (nI (C (t + 1))) := fun c => by
    rw [nI_1]
    exact (ld_in rfl (show t + 1 < 96 by have := ht.1; have := hM.1.1; omega) (by decide)).trans (congrArg some (hC _ (by have := ht.1; have := hM.1.1; omega)))
  have dn : 0 < t % 16 → ld b 151 (nI t - 1) = some (nI (C (t - 1))) := fun c => by
    obtain ⟨k, hk⟩ : ∃ k, t = k + 1 := ⟨t - 1, by omega⟩
    rw [hk, nI_pred]
    exact (ld_in rfl (show k < 96 by omega) (by decide)).trans (congrArg some (hC _ (by omega)))
  unfold besD
  by_cases c1 : 0 < t % 16
  · rw [F_R_mutinousBeside, d2, if_neg (nI_nle c1 (by omega)), dn c1]
    simp only [Option.bind_some, d1, lz, zm1]
    by_cases c2 : t % 16 + 1 < z (t / 16)
    · rw [if_neg (nI_ge (show t % 16 < z (t / 16) - 1 by omega) (by omega)), up c2, if_pos c1, if_pos c2]
      simp only [Option.bind_some, nI_add]
      exact fin _
    · rw [if_pos (nI_le (show z (t / 16) - 1 ≤ t % 16 by omega) (by omega)), if_pos c1, if_neg c2]
      exact fin _
  · rw [F_R_mutinousBeside, d2, if_pos (show nI (t % 16) ≤ 0 by rw [show t % 16 = 0 by omega]; decide)]
    simp only [Option.bind_some, d1, lz, zm1]
    by_cases c2 : t % 16 + 1 < z (t / 16)
    · rw [if_neg (nI_ge (show t % 16 < z (t / 16) - 1 by omega) (by omega)), up c2, if_neg c1, if_pos c2]
      have f1 := fin (C (t + 1))
      show F_R_mutinousBeside_36 gF (nI t) (0 + nI (C (t + 1))) 0 b = some (nI (0 + C (t + 1) + dsD A B C t nl), b)
      rw [Int32.zero_add, Nat.zero_add]
      exact f1
    · rw [if_pos (nI_le (show z (t / 16) - 1 ≤ t % 16 by omega) (by omega)), if_neg c1, if_neg c2]
      exact fin 0
