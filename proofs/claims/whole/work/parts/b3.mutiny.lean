/-! ===== mutiny: the fewest ===== -/
def cq1 (b : Bool) : Nat := bif b then 1 else 0
/-- of two side by side: o j: j is ahead of j + 1 -/
def lfO (P o : Nat → Bool) : Nat → Bool
  | 0 => false
  | j + 1 => P j && o j
def ahO (P o : Nat → Bool) (j : Nat) : Nat := cq1 (lfO P o j) + cq1 (P (j + 1) && !o j)
def pdO (P o : Nat → Bool) (w : Nat → Nat) (j : Nat) : Bool := P j && decide (ahO P o j < w j)
def dpM (P : Nat → Bool) (w : Nat → Nat) : Nat → Nat × Nat
  | 0 => (0, 1000000)
  | i + 1 => if P i = true then (if P (i + 1) = true then (mn ((dpM P w i).1 + cq1 (decide (1 < w i))) ((dpM P w i).2 + cq1 (decide (2 < w i))), mn ((dpM P w i).1 + 1) ((dpM P w i).2 + cq1 (decide (1 < w i)))) else (mn ((dpM P w i).1 + 1) ((dpM P w i).2 + cq1 (decide (1 < w i))), 1000000)) else dpM P w i
theorem fb_s (p : Nat → Bool) (n : Nat) : fb_ct p (n + 1) = fb_ct p n + cq1 (p n) := by
  cases h : p n with
  | true => show _ = fb_ct p n + 1; rw [fb_ct, h]; rfl
  | false => show _ = fb_ct p n + 0; rw [fb_ct, h]; rfl
theorem cq1_le (b : Bool) : cq1 b ≤ 1 := by cases b <;> decide
theorem dp_le {P o : Nat → Bool} {w : Nat → Nat} (hw : ∀ j, 1 ≤ w j) : ∀ m, (bif lfO P o m && P m then (dpM P w m).2 else (dpM P w m).1) ≤ fb_ct (pdO P o w) m := by
  intro m
  induction m with
  | zero => exact Nat.le_refl 0
  | succ m ih =>
    have hwm := hw m
    rw [fb_s]
    cases hp : P m with
    | false =>
      have e1 : pdO P o w m = false := by unfold pdO; rw [hp]; rfl
      have e2 : dpM P w (m + 1) = dpM P w m := by
        show (if P m = true then _ else dpM P w m) = _
        rw [hp]
        rfl
      have e3 : lfO P o (m + 1) = false := by show (P m && o m) = false; rw [hp]; rfl
      rw [hp, Bool.and_false] at ih
      rw [e1, e2, e3, Bool.false_and]
      exact ih
    | true =>
      rw [hp, Bool.and_true] at ih
      have e2 : dpM P w (m + 1) = if P (m + 1) = true then (mn ((dpM P w m).1 + cq1 (decide (1 < w m))) ((dpM P w m).2 + cq1 (decide (2 < w m))), mn ((dpM P w m).1 + 1) ((dpM P w m).2 + cq1 (decide (1 < w m)))) else (mn ((dpM P w m).1 + 1) ((dpM P w m).2 + cq1 (decide (1 < w m))), 1000000) := by
        show (if P m = true then _ else dpM P w m) = _
        rw [if_pos hp]
      have e1 : pdO P o w m = decide (cq1 (lfO P o m) + cq1 (P (m + 1) && !o m) < w m) := by unfold pdO ahO; rw [hp]; rfl
      have e3 : lfO P o (m + 1) = o m := by show (P m && o m) = o m; rw [hp]; rfl
      rw [e1, e2, e3]
      have a1 := mn_le ((dpM P w m).1 + 1) ((dpM P w m).2 + cq1 (decide (1 < w m)))
      have a2 := mn_r ((dpM P w m).1 + 1) ((dpM P w m).2 + cq1 (decide (1 < w m)))
      have a3 := mn_le ((dpM P w m).1 + cq1 (decide (1 < w m))) ((dpM P w m).2 + cq1 (decide (2 < w m)))
      have a4 := mn_r ((dpM P w m).1 + cq1 (decide (1 < w m))) ((dpM P w m).2 + cq1 (decide (2 < w m)))
      have d0 : cq1 (decide (0 < w m)) = 1 := by rw [decide_eq_true (show 0 < w m from hwm)]; rfl
      cases hq : P (m + 1) with
      | false =>
        rw [Bool.and_false]
        simp only [Bool.false_eq_true, if_false, Bool.false_and, cond_false]
        cases hl : lfO P o m with
        | false =>
          rw [hl, cond_false] at ih
          show _ ≤ _ + cq1 (decide (0 < w m))
          omega
        | true =>
          rw [hl, cond_true] at ih
          show _ ≤ _ + cq1 (decide (1 < w m))
          omega
      | true =>
        rw [Bool.and_true]
        cases ho : o m with
        | true =>
          simp only [if_true, cond_true]
          cases hl : lfO P o m with
          | false =>
            rw [hl, cond_false] at ih
            show _ ≤ _ + cq1 (decide (0 < w m))
            omega
          | true =>
            rw [hl, cond_true] at ih
            show _ ≤ _ + cq1 (decide (1 < w m))
            omega
        | false =>
          simp only [if_true, cond_false]
          cases hl : lfO P o m with
          | false =>
            rw [hl, cond_false] at ih
            show _ ≤ _ + cq1 (decide (1 < w m))
            omega
          | true =>
            rw [hl, cond_true] at ih
            show _ ≤ _ + cq1 (decide (2 < w m))
            omega
theorem lfO_c {P o o' : Nat → Bool} {m : Nat} (h : ∀ j, j < m → o j = o' j) : lfO P o m = lfO P o' m := by
  cases m with
  | zero => rfl
  | succ m =>
    show (P m && o m) = (P m && o' m)
    rw [h m (by omega)]
theorem pd_c {P o o' : Nat → Bool} {w : Nat → Nat} : ∀ m, (∀ j, j < m → o j = o' j) → fb_ct (pdO P o w) m = fb_ct (pdO P o' w) m := by
  intro m h
  apply fb_ct_cong
  intro k hk
  unfold pdO ahO
  rw [h k hk, lfO_c (fun j hj => h j (by omega))]
/-- each is reached -/
theorem dp_at {P : Nat → Bool} {w : Nat → Nat} (hw : ∀ j, 1 ≤ w j) : ∀ m, m ≤ 1000 → ((dpM P w m).1 ≤ m ∧ ∃ o, (lfO P o m && P m) = false ∧ fb_ct (pdO P o w) m = (dpM P w m).1) ∧ (1000000 ≤ (dpM P w m).2 ∨ (P m = true ∧ ∃ o, lfO P o m = true ∧ fb_ct (pdO P o w) m = (dpM P w m).2)) := by
  intro m
  induction m with
  | zero => exact fun _ => ⟨⟨Nat.le_refl 0, fun _ => false, rfl, rfl⟩, Or.inl (Nat.le_refl _)⟩
  | succ m ih =>
    intro hm1
    have hwm := hw m
    obtain ⟨⟨x1, o1, l1, s1⟩, hy⟩ := ih (by omega)
    cases hp : P m with
    | false =>
      have e2 : dpM P w (m + 1) = dpM P w m := by
        show (if P m = true then _ else dpM P w m) = _
        rw [hp]
        rfl
      have e3 : ∀ o, lfO P o (m + 1) = false := fun o => by show (P m && o m) = false; rw [hp]; rfl
      have e1 : ∀ o, pdO P o w m = false := fun o => by unfold pdO; rw [hp]; rfl
      rw [e2]
      refine ⟨⟨by omega, o1, by rw [e3, Bool.false_and], by rw [fb_s, e1]; exact s1⟩, ?_⟩
      rcases hy with q | ⟨q, -⟩
      · exact Or.inl q
      · rw [hp] at q
        exact absurd q (by decide)
    | true =>
      have e2 : dpM P w (m + 1) = if P (m + 1) = true then (mn ((dpM P w m).1 + cq1 (decide (1 < w m))) ((dpM P w m).2 + cq1 (decide (2 < w m))), mn ((dpM P w m).1 + 1) ((dpM P w m).2 + cq1 (decide (1 < w m)))) else (mn ((dpM P w m).1 + 1) ((dpM P w m).2 + cq1 (decide (1 < w m))), 1000000) := by
        show (if P m = true then _ else dpM P w m) = _
        rw [if_pos hp]
      have e3 : ∀ o, lfO P o (m + 1) = o m := fun o => by show (P m && o m) = o m; rw [hp]; rfl
      have e1 : ∀ o, pdO P o w m = decide (cq1 (lfO P o m) + cq1 (P (m + 1) && !o m) < w m) := fun o => by unfold pdO ahO; rw [hp]; rfl
      have d0 : cq1 (decide (0 < w m)) = 1 := by rw [decide_eq_true (show 0 < w m from hwm)]; rfl
      have q1 := cq1_le (decide (1 < w m))
      have q2 := cq1_le (decide (2 < w m))
      rw [hp, Bool.and_true] at l1
      -- o with o m = v
      have st : ∀ (o : Nat → Bool) (v : Bool), ∃ o', o' m = v ∧ lfO P o' m = lfO P o m ∧ fb_ct (pdO P o' w) m = fb_ct (pdO P o w) m := fun o v => by
        refine ⟨fun j => if j = m then v else o j, if_pos rfl, lfO_c (fun j hj => if_neg (by omega)), pd_c m (fun j hj => if_neg (by omega))⟩
      have un : ∀ v, (P (m + 1) && !v) = false → ∃ o, o m = v ∧ fb_ct (pdO P o w) (m + 1) = mn ((dpM P w m).1 + 1) ((dpM P w m).2 + cq1 (decide (1 < w m))) := fun v hv => by
        have viaX : (dpM P w m).1 + 1 ≤ (dpM P w m).2 + cq1 (decide (1 < w m)) → ∃ o, o m = v ∧ fb_ct (pdO P o w) (m + 1) = mn ((dpM P w m).1 + 1) ((dpM P w m).2 + cq1 (decide (1 < w m))) := fun hle => by
          obtain ⟨o', t1, t2, t3⟩ := st o1 v
          refine ⟨o', t1, ?_⟩
          rw [fb_s, e1, t3, s1, t2, l1, t1, hv, show mn ((dpM P w m).1 + 1) ((dpM P w m).2 + cq1 (decide (1 < w m))) = (dpM P w m).1 + 1 from if_neg (by omega)]
          show _ + cq1 (decide (0 < w m)) = _
          omega
        by_cases c : (dpM P w m).1 + 1 ≤ (dpM P w m).2 + cq1 (decide (1 < w m))
        · exact viaX c
        · rcases hy with q | ⟨-, o2, l2, s2⟩
          · omega
          · obtain ⟨o', t1, t2, t3⟩ := st o2 v
            refine ⟨o', t1, ?_⟩
            rw [fb_s, e1, t3, s2, t2, l2, t1, hv, show mn ((dpM P w m).1 + 1) ((dpM P w m).2 + cq1 (decide (1 < w m))) = (dpM P w m).2 + cq1 (decide (1 < w m)) from if_pos (by omega)]
            rfl
      have b1 := mn_le ((dpM P w m).1 + 1) ((dpM P w m).2 + cq1 (decide (1 < w m)))
      cases hq : P (m + 1) with
      | false =>
        rw [e2, hq, if_neg (by decide)]
        obtain ⟨o, t1, t2⟩ := un false (by rw [hq]; rfl)
        exact ⟨⟨by omega, o, by rw [Bool.and_false], t2⟩, Or.inl (Nat.le_refl _)⟩
      | true =>
        rw [e2, if_pos hq]
        refine ⟨⟨?_, ?_⟩, Or.inr ⟨rfl, ?_⟩⟩
        · have := mn_le ((dpM P w m).1 + cq1 (decide (1 < w m))) ((dpM P w m).2 + cq1 (decide (2 < w m)))
          show mn _ _ ≤ _
          omega
        · show ∃ o, (lfO P o (m + 1) && true) = false ∧ fb_ct (pdO P o w) (m + 1) = mn _ _
          by_cases c : (dpM P w m).1 + cq1 (decide (1 < w m)) ≤ (dpM P w m).2 + cq1 (decide (2 < w m))
          · obtain ⟨o', t1, t2, t3⟩ := st o1 false
            refine ⟨o', by rw [e3, t1]; rfl, ?_⟩
            rw [fb_s, e1, t3, s1, t2, l1, t1, hq, show mn ((dpM P w m).1 + cq1 (decide (1 < w m))) ((dpM P w m).2 + cq1 (decide (2 < w m))) = (dpM P w m).1 + cq1 (decide (1 < w m)) from if_neg (by omega)]
            rfl
          · rcases hy with q | ⟨-, o2, l2, s2⟩
            · omega
            · obtain ⟨o', t1, t2, t3⟩ := st o2 false
              refine ⟨o', by rw [e3, t1]; rfl, ?_⟩
              rw [fb_s, e1, t3, s2, t2, l2, t1, hq, show mn ((dpM P w m).1 + cq1 (decide (1 < w m))) ((dpM P w m).2 + cq1 (decide (2 < w m))) = (dpM P w m).2 + cq1 (decide (2 < w m)) from if_pos (by omega)]
              rfl
        · obtain ⟨o, t1, t2⟩ := un true (by rw [hq]; rfl)
          exact ⟨o, by rw [e3]; exact t1, t2⟩
/-! a set that is closed holds all, if those begin who want more than are ahead -/
def bsT (T j : Nat) : Nat := cq1 (T.testBit (j + 1)) + cq1 (decide (0 < j) && T.testBit (j - 1))
theorem cl_l {P o : Nat → Bool} {w : Nat → Nat} {T : Nat} (hw : ∀ j, 1 ≤ w j) (hX : ∀ j, pdO P o w j = true → T.testBit j = true) (hc : ∀ j, P j = true → T.testBit j = false → bsT T j < w j) : ∀ j, P j = true → T.testBit j = false → o j = true → False := by
  intro j
  induction j with
  | zero =>
    intro hp ht ho
    have h1 : ¬ pdO P o w 0 = true := fun q => by rw [hX 0 q] at ht; exact absurd ht (by decide)
    apply h1
    have h2 := hw 0
    unfold pdO ahO
    rw [hp, ho]
    show decide (0 + cq1 (P 1 && false) < w 0) = true
    rw [Bool.and_false]
    exact decide_eq_true h2
  | succ j ih =>
    intro hp ht ho
    have h1 : ¬ pdO P o w (j + 1) = true := fun q => by rw [hX _ q] at ht; exact absurd ht (by decide)
    have hb := hc (j + 1) hp ht
    have hwj := hw (j + 1)
    have e : pdO P o w (j + 1) = decide (cq1 (P j && o j) + 0 < w (j + 1)) := by
      unfold pdO ahO
      rw [hp, ho]
      show decide (cq1 (P j && o j) + cq1 (P (j + 1 + 1) && false) < w (j + 1)) = _
      rw [Bool.and_false]
      rfl
    rw [e] at h1
    have h2 : ¬ cq1 (P j && o j) + 0 < w (j + 1) := fun q => h1 (decide_eq_true q)
    have h3 : (P j && o j) = true := by
      cases hq : (P j && o j) with
      | true => rfl
      | false => rw [hq] at h2; exact absurd hwj h2
    rw [h3] at h2
    have h2 : ¬ 1 + 0 < w (j + 1) := h2
    rw [Bool.and_eq_true] at h3
    refine ih h3.1 ?_ h3.2
    cases hq : T.testBit j with
    | false => rfl
    | true =>
      unfold bsT at hb
      rw [show j + 1 - 1 = j by omega, hq, decide_eq_true (show 0 < j + 1 by omega)] at hb
      have : cq1 (true && true) = 1 := rfl
      omega
theorem cl_r {P o : Nat → Bool} {w : Nat → Nat} {T n : Nat} (hw : ∀ j, 1 ≤ w j) (hn : ∀ j, n ≤ j → P j = false) (hX : ∀ j, pdO P o w j = true → T.testBit j = true) (hc : ∀ j, P j = true → T.testBit j = false → bsT T j < w j) : ∀ q j, j + q = n → P j = true → T.testBit j = false → lfO P o j = false → False := by
  intro q
  induction q with
  | zero =>
    intro j hj hp
    rw [hn j (by omega)] at hp
    exact absurd hp (by decide)
  | succ q ih =>
    intro j hj hp ht hl
    have h1 : ¬ pdO P o w j = true := fun q => by rw [hX _ q] at ht; exact absurd ht (by decide)
    have hb := hc j hp ht
    have hwj := hw j
    have e : pdO P o w j = decide (0 + cq1 (P (j + 1) && !o j) < w j) := by
      unfold pdO ahO
      rw [hp, hl]
      rfl
    rw [e] at h1
    have h2 : ¬ 0 + cq1 (P (j + 1) && !o j) < w j := fun q => h1 (decide_eq_true q)
    have h3 : (P (j + 1) && !o j) = true := by
      cases hq : (P (j + 1) && !o j) with
      | true => rfl
      | false => rw [hq] at h2; exact absurd hwj h2
    rw [h3] at h2
    have h2 : ¬ 0 + 1 < w j := h2
    rw [Bool.and_eq_true] at h3
    have ho : o j = false := by
      cases hq : o j with
      | false => rfl
      | true => rw [hq] at h3; exact absurd h3.2 (by decide)
    refine ih (j + 1) (by omega) h3.1 ?_ (by show (P j && o j) = false; rw [ho, Bool.and_false])
    cases hq : T.testBit (j + 1) with
    | false => rfl
    | true =>
      unfold bsT at hb
      rw [hq] at hb
      have : cq1 true = 1 := rfl
      omega
theorem cl_all {P o : Nat → Bool} {w : Nat → Nat} {T n : Nat} (hw : ∀ j, 1 ≤ w j) (hn : ∀ j, n ≤ j → P j = false) (hX : ∀ j, pdO P o w j = true → T.testBit j = true) (hc : ∀ j, P j = true → T.testBit j = false → bsT T j < w j) : ∀ j, P j = true → T.testBit j = true := by
  intro j hp
  cases ht : T.testBit j with
  | true => rfl
  | false =>
    exfalso
    have h1 : ¬ pdO P o w j = true := fun q => by rw [hX _ q] at ht; exact absurd ht (by decide)
    have hb := hc j hp ht
    have e : pdO P o w j = decide (ahO P o j < w j) := by unfold pdO; rw [hp]; rfl
    rw [e] at h1
    have h2 : ¬ ahO P o j < w j := fun q => h1 (decide_eq_true q)
    have jn : j < n := by
      rcases Nat.lt_or_ge j n with q | q
      · exact q
      · rw [hn j q] at hp
        exact absurd hp (by decide)
    by_cases cl : lfO P o j = true ∧ T.testBit (j - 1) = false
    · cases j with
      | zero => exact absurd cl.1 (show ¬ false = true from Bool.false_ne_true)
      | succ j =>
        have h3 : (P j && o j) = true := cl.1
        rw [Bool.and_eq_true] at h3
        exact cl_l hw hX hc j h3.1 cl.2 h3.2
    · by_cases cr : (P (j + 1) && !o j) = true ∧ T.testBit (j + 1) = false
      · have h3 := cr.1
        rw [Bool.and_eq_true] at h3
        have ho : o j = false := by
          cases hq : o j with
          | false => rfl
          | true => rw [hq] at h3; exact absurd h3.2 (by decide)
        exact cl_r hw hn hX hc (n - (j + 1)) (j + 1) (by omega) h3.1 cr.2 (by show (P j && o j) = false; rw [ho, Bool.and_false])
      · have k1 : cq1 (lfO P o j) ≤ cq1 (decide (0 < j) && T.testBit (j - 1)) := by
          cases hq : lfO P o j with
          | false => exact Nat.zero_le _
          | true =>
            have j0 : 0 < j := by
              cases j with
              | zero => exact absurd hq (show ¬ false = true from Bool.false_ne_true)
              | succ j => omega
            have : T.testBit (j - 1) = true := by
              cases hr : T.testBit (j - 1) with
              | true => rfl
              | false => exact absurd ⟨hq, hr⟩ cl
            rw [this, decide_eq_true j0]
            exact Nat.le_refl _
        have k2 : cq1 (P (j + 1) && !o j) ≤ cq1 (T.testBit (j + 1)) := by
          cases hq : (P (j + 1) && !o j) with
          | false => exact Nat.zero_le _
          | true =>
            have : T.testBit (j + 1) = true := by
              cases hr : T.testBit (j + 1) with
              | true => rfl
              | false => exact absurd ⟨hq, hr⟩ cr
            rw [this]
            exact Nat.le_refl _
        unfold bsT at hb
        unfold ahO at h2
        omega
