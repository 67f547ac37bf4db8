/-! ===== mutiny: who is beside whom ===== -/
def othD (A B : Nat → Nat) (l s : Nat) : Nat := if A l = s then B l else if B l = s then A l else 96
def seenD (A B : Nat → Nat) (s v : Nat) : Nat → Bool
  | 0 => false
  | e + 1 => seenD A B s v e || decide (othD A B e s = v)
def nwD (A B : Nat → Nat) (l s : Nat) : Bool := decide (othD A B l s < 96) && !seenD A B s (othD A B l s) l
def dsD (A B C : Nat → Nat) (s : Nat) : Nat → Nat
  | 0 => 0
  | l + 1 => dsD A B C s l + (bif nwD A B l s then C (othD A B l s) else 0)
def besD (A B z C : Nat → Nat) (nl s : Nat) : Nat := (if 0 < s % 16 then C (s - 1) else 0) + (if s % 16 + 1 < z (s / 16) then C (s + 1) else 0) + dsD A B C s nl
def inD (t : Nat) : Nat → Nat := fun m => if m = t then 1 else 0
def okDr (A B : Nat → Nat) (nl : Nat) : Prop := ∀ l, l < nl → A l < 96 ∧ B l < 96 ∧ A l ≠ B l
theorem oth_J {A B : Nat → Nat} {nl l m t : Nat} (h : okDr A B nl) (hl : l < nl) (ht : t < 96) : othD A B l m = t ↔ (A l = m ∧ B l = t) ∨ (B l = m ∧ A l = t) := by
  obtain ⟨h1, h2, h3⟩ := h l hl
  unfold othD
  split
  · omega
  · split <;> omega
theorem oth_S {A B : Nat → Nat} {nl l m t : Nat} (h : okDr A B nl) (hl : l < nl) (ht : t < 96) (hm : m < 96) : othD A B l m = t ↔ othD A B l t = m := by
  rw [oth_J h hl ht, oth_J h hl hm]
  omega
theorem seen_S {A B : Nat → Nat} {nl m t : Nat} (h : okDr A B nl) (ht : t < 96) (hm : m < 96) : ∀ l, l ≤ nl → seenD A B m t l = seenD A B t m l := by
  intro l
  induction l with
  | zero => intro _; rfl
  | succ l ih =>
    intro hl
    show (seenD A B m t l || decide (othD A B l m = t)) = (seenD A B t m l || decide (othD A B l t = m))
    rw [ih (by omega), decide_eq_decide.mpr (oth_S h (by omega) ht hm)]
theorem ds_S {A B : Nat → Nat} {nl m t : Nat} (h : okDr A B nl) (ht : t < 96) (hm : m < 96) : ∀ l, l ≤ nl → dsD A B (inD t) m l = dsD A B (inD m) t l := by
  intro l
  induction l with
  | zero => intro _; rfl
  | succ l ih =>
    intro hl
    show dsD A B (inD t) m l + (bif nwD A B l m then inD t (othD A B l m) else 0) = dsD A B (inD m) t l + (bif nwD A B l t then inD m (othD A B l t) else 0)
    rw [ih (by omega)]
    congr 1
    by_cases c : othD A B l m = t
    · have d := (oth_S h (by omega) ht hm).mp c
      unfold nwD
      rw [c, d, seen_S h ht hm l (by omega), decide_eq_true ht, decide_eq_true hm]
      unfold inD
      rw [if_pos rfl, if_pos rfl]
    · have d : ¬ othD A B l t = m := fun q => c ((oth_S h (by omega) ht hm).mpr q)
      unfold inD
      rw [if_neg c, if_neg d]
      cases nwD A B l m <;> cases nwD A B l t <;> rfl
theorem ds_add {A B C D : Nat → Nat} {s : Nat} : ∀ l, dsD A B (fun m => C m + D m) s l = dsD A B C s l + dsD A B D s l := by
  intro l
  induction l with
  | zero => rfl
  | succ l ih =>
    show dsD A B (fun m => C m + D m) s l + _ = dsD A B C s l + _ + (dsD A B D s l + _)
    rw [ih]
    cases nwD A B l s
    · show _ + 0 = _ + 0 + (_ + 0)
      omega
    · show _ + (C (othD A B l s) + D (othD A B l s)) = _ + C (othD A B l s) + (_ + D (othD A B l s))
      omega
theorem ds_mono {A B C D : Nat → Nat} {s : Nat} (h : ∀ m, C m ≤ D m) : ∀ l, dsD A B C s l ≤ dsD A B D s l := by
  intro l
  induction l with
  | zero => exact Nat.le_refl _
  | succ l ih =>
    refine Nat.add_le_add ih ?_
    cases nwD A B l s
    · exact Nat.le_refl _
    · exact h _
theorem ds_le {A B C : Nat → Nat} {s : Nat} (h : ∀ m, C m ≤ 1) : ∀ l, dsD A B C s l ≤ l := by
  intro l
  induction l with
  | zero => exact Nat.le_refl _
  | succ l ih =>
    refine Nat.add_le_add ih ?_
    cases nwD A B l s
    · exact Nat.zero_le _
    · exact h _
theorem bes_add {A B z C D : Nat → Nat} {nl s : Nat} : besD A B z (fun m => C m + D m) nl s = besD A B z C nl s + besD A B z D nl s := by
  unfold besD
  rw [ds_add]
  by_cases c1 : 0 < s % 16 <;> by_cases c2 : s % 16 + 1 < z (s / 16)
  · rw [if_pos c1, if_pos c1, if_pos c1, if_pos c2, if_pos c2, if_pos c2]; dsimp only; omega
  · rw [if_pos c1, if_pos c1, if_pos c1, if_neg c2, if_neg c2, if_neg c2]; dsimp only; omega
  · rw [if_neg c1, if_neg c1, if_neg c1, if_pos c2, if_pos c2, if_pos c2]; dsimp only; omega
  · rw [if_neg c1, if_neg c1, if_neg c1, if_neg c2, if_neg c2, if_neg c2]; omega
theorem bes_mono {A B z C D : Nat → Nat} {nl s : Nat} (h : ∀ m, C m ≤ D m) : besD A B z C nl s ≤ besD A B z D nl s := by
  unfold besD
  refine Nat.add_le_add (Nat.add_le_add ?_ ?_) (ds_mono h nl)
  · split
    · exact h _
    · exact Nat.le_refl _
  · split
    · exact h _
    · exact Nat.le_refl _
theorem bes_le {A B z C : Nat → Nat} {nl s : Nat} (h : ∀ m, C m ≤ 1) : besD A B z C nl s ≤ 2 + nl := by
  unfold besD
  have a1 := ds_le (A := A) (B := B) (s := s) h nl
  have a2 := h (s - 1)
  have a3 := h (s + 1)
  split <;> split <;> omega
theorem bes_tm {z : Nat → Nat} {m t : Nat} (hm : m % 16 < z (m / 16)) (ht : z (t / 16) ≤ 16) : (if 0 < m % 16 then inD t (m - 1) else 0) = (if t % 16 + 1 < z (t / 16) then inD m (t + 1) else 0) := by
  by_cases ce : m = t + 1
  · subst ce
    by_cases c : (t + 1) % 16 = 0
    · rw [if_neg (by omega), if_neg (by omega)]
    · have d : (t + 1) / 16 = t / 16 := by omega
      rw [d] at hm
      unfold inD
      rw [if_pos (by omega), if_pos (by omega), if_pos (by omega), if_pos rfl]
  · have l0 : (if 0 < m % 16 then inD t (m - 1) else 0) = 0 := by
      split
      · unfold inD
        exact if_neg (by omega)
      · rfl
    have r0 : (if t % 16 + 1 < z (t / 16) then inD m (t + 1) else 0) = 0 := by
      split
      · unfold inD
        exact if_neg (by omega)
      · rfl
    rw [l0, r0]
theorem bes_S {A B z : Nat → Nat} {nl m t : Nat} (h : okDr A B nl) (ht : t < 96) (hm : m < 96) (im : m % 16 < z (m / 16)) (it : t % 16 < z (t / 16)) (zm : z (m / 16) ≤ 16) (zt : z (t / 16) ≤ 16) : besD A B z (inD t) nl m = besD A B z (inD m) nl t := by
  unfold besD
  rw [ds_S h ht hm nl (Nat.le_refl _), bes_tm im zt, ← bes_tm it zm]
  omega
theorem seen_m {A B : Nat → Nat} {s v : Nat} : ∀ (d e : Nat), seenD A B s v e = true → seenD A B s v (e + d) = true := by
  intro d
  induction d with
  | zero => intro e h; exact h
  | succ d ih =>
    intro e h
    show (seenD A B s v (e + d) || _) = true
    rw [ih e h]
    rfl
/-- of a row's first k -/
def ckQ (qf : Nat → Nat) : Nat → Nat → Nat
  | 0, _ => 0
  | k + 1, m => ckQ qf k m + inD (qf k) m
theorem ck_0 {qf : Nat → Nat} {m : Nat} : ∀ k, (∀ j, j < k → qf j ≠ m) → ckQ qf k m = 0 := by
  intro k
  induction k with
  | zero => intro _; rfl
  | succ k ih =>
    intro h
    show ckQ qf k m + inD (qf k) m = 0
    rw [ih (fun j hj => h j (by omega))]
    unfold inD
    rw [if_neg (fun q => h k (by omega) q.symm)]
theorem ck_le {qf K : Nat → Nat} {m : Nat} : ∀ k, (∀ i j, i < j → j < k → qf i ≠ qf j) → (∀ j, j < k → 1 ≤ K (qf j)) → ckQ qf k m ≤ K m := by
  intro k
  induction k with
  | zero => intro _ _; exact Nat.zero_le _
  | succ k ih =>
    intro hd h
    show ckQ qf k m + inD (qf k) m ≤ K m
    unfold inD
    by_cases c : m = qf k
    · rw [if_pos c, ck_0 k (fun j hj => by rw [c]; exact hd j k hj (by omega)), c]
      have := h k (by omega)
      omega
    · rw [if_neg c]
      exact ih (fun i j hij hj => hd i j hij (by omega)) (fun j hj => h j (by omega))
theorem ck_1 {qf : Nat → Nat} {m : Nat} : ∀ k, (∃ j, j < k ∧ qf j = m) → 1 ≤ ckQ qf k m := by
  intro k
  induction k with
  | zero => rintro ⟨j, hj, -⟩; omega
  | succ k ih =>
    rintro ⟨j, hj, e1⟩
    show 1 ≤ ckQ qf k m + inD (qf k) m
    by_cases c : j = k
    · subst c
      unfold inD
      rw [if_pos e1.symm]
      omega
    · have := ih ⟨j, by omega, e1⟩
      omega
theorem ck_c {qf qg : Nat → Nat} {m : Nat} : ∀ k, (∀ j, j < k → qg j = qf j) → ckQ qg k m = ckQ qf k m := by
  intro k
  induction k with
  | zero => intro _; rfl
  | succ k ih =>
    intro h
    show ckQ qg k m + inD (qg k) m = ckQ qf k m + inD (qf k) m
    rw [ih (fun j hj => h j (by omega)), h k (by omega)]
theorem fb_lt {p : Nat → Bool} {m : Nat} : ∀ n, m < n → p m = false → fb_ct p n < n := by
  intro n
  induction n with
  | zero => intro h; omega
  | succ n ih =>
    intro h hp
    rw [fb_s]
    by_cases c : m = n
    · subst c
      rw [hp]
      have := fb_ct_le p m
      show _ + 0 < _
      omega
    · have := ih (by omega) hp
      have := cq1_le (p n)
      omega
theorem fb_in {p : Nat → Bool} {m : Nat} : ∀ n, p m = false → fb_ct (fun x => decide (x = m) || p x) n = fb_ct p n + (if m < n then 1 else 0) := by
  intro n
  induction n with
  | zero => intro _; rfl
  | succ n ih =>
    intro hp
    rw [fb_s, fb_s, ih hp]
    by_cases c : n = m
    · subst c
      rw [hp, decide_eq_true rfl, if_neg (by omega), if_pos (by omega)]
      rfl
    · rw [decide_eq_false c, Bool.false_or]
      by_cases d : m < n
      · rw [if_pos d, if_pos (by omega)]; omega
      · rw [if_neg d, if_neg (by omega)]; omega
