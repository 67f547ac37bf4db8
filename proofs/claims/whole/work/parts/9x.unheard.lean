/-! ===== unheard: backward and forward ===== -/
/-- the least of the first so many -/
def mns (e : Nat → Nat) : Nat → Nat
  | 0 => 1000000
  | k + 1 => mn (mns e k) (e k)
theorem mn_r (x y : Nat) : mn x y ≤ y := by
  unfold mn
  split <;> omega
theorem mn_at (x y : Nat) : mn x y = x ∨ mn x y = y := by
  unfold mn
  split
  · exact Or.inr rfl
  · exact Or.inl rfl
theorem mns_far (e : Nat → Nat) : ∀ k, mns e k ≤ 1000000
  | 0 => Nat.le_refl _
  | k + 1 => Nat.le_trans (mn_le _ _) (mns_far e k)
theorem mns_le (e : Nat → Nat) : ∀ k j, j < k → mns e k ≤ e j
  | k + 1, j, h => by
    show mn (mns e k) (e k) ≤ e j
    by_cases c : j = k
    · rw [c]; exact mn_r _ _
    · exact Nat.le_trans (mn_le _ _) (mns_le e k j (by omega))
theorem mns_at (e : Nat → Nat) : ∀ k, mns e k = 1000000 ∨ ∃ j, j < k ∧ mns e k = e j
  | 0 => Or.inl rfl
  | k + 1 => by
    rcases mn_at (mns e k) (e k) with h | h
    · rcases mns_at e k with q | ⟨j, j1, j2⟩
      · exact Or.inl (h.trans q)
      · exact Or.inr ⟨j, by omega, h.trans j2⟩
    · exact Or.inr ⟨k, by omega, h⟩
theorem mns_c {e e' : Nat → Nat} : ∀ k, (∀ j, j < k → e j = e' j) → mns e k = mns e' k
  | 0, _ => rfl
  | k + 1, h => by
    show mn (mns e k) (e k) = mn (mns e' k) (e' k)
    rw [mns_c k (fun j hj => h j (by omega)), h k (by omega)]
/-- one who stands at p goes up by k + 1 -/
def eC (n : Nat) (gn : Nat → Bool) (W : Nat → Nat → Nat) (T : Nat → Nat) (p k : Nat) : Nat := if n < p + k + 1 then 0 else if gn (p + k) then 1000000 else mn 1000000 (W (p + k) (k + 1) + T (p + k + 1))
/-- one came to step i by k + 1 -/
def eD (W : Nat → Nat → Nat) (T : Nat → Nat) (i k : Nat) : Nat := T (i - k) + W i (k + 1)
def isC (n s : Nat) (gn : Nat → Bool) (W : Nat → Nat → Nat) (C : Nat → Nat) (p : Nat) : Prop := C p = mns (eC n gn W C p) s
def least (s i : Nat) : Nat := if s ≤ i + 1 then s else i + 1
def isD (s : Nat) (gn : Nat → Bool) (W : Nat → Nat → Nat) (D : Nat → Nat) (i : Nat) : Prop := D (i + 1) = if gn i then 1000000 else mns (eD W D i) (least s i)
def bsD (n s : Nat) (D : Nat → Nat) : Nat → Nat
  | 0 => if n < s then 0 else 1000000
  | i + 1 => if i + s < n then bsD n s D i else mn (bsD n s D i) (D (i + 1))
theorem bs_far (n s : Nat) (D : Nat → Nat) : ∀ i, bsD n s D i ≤ 1000000
  | 0 => by
    show (if n < s then 0 else 1000000) ≤ 1000000
    split <;> omega
  | i + 1 => by
    have := bs_far n s D i
    show (if i + s < n then bsD n s D i else mn (bsD n s D i) (D (i + 1))) ≤ _
    split
    · exact this
    · exact Nat.le_trans (mn_le _ _) this
theorem bs_le {n s : Nat} {D : Nat → Nat} (h0 : D 0 = 0) : ∀ i p, p ≤ i → n < p + s → bsD n s D i ≤ D p
  | 0, p, hp, hx => by
    have : p = 0 := by omega
    subst this
    show (if n < s then 0 else 1000000) ≤ D 0
    rw [if_pos (by omega)]
    exact Nat.zero_le _
  | i + 1, p, hp, hx => by
    show (if i + s < n then bsD n s D i else mn (bsD n s D i) (D (i + 1))) ≤ D p
    by_cases c : p = i + 1
    · subst c
      rw [if_neg (by omega)]
      exact mn_r _ _
    · have := bs_le h0 i p (by omega) hx
      split
      · exact this
      · exact Nat.le_trans (mn_le _ _) this
theorem bs_at {n s : Nat} {D : Nat → Nat} (h0 : D 0 = 0) : ∀ i, bsD n s D i = 1000000 ∨ ∃ p, p ≤ i ∧ n < p + s ∧ bsD n s D i = D p
  | 0 => by
    show (if n < s then 0 else 1000000) = 1000000 ∨ ∃ p, p ≤ 0 ∧ n < p + s ∧ (if n < s then 0 else 1000000) = D p
    by_cases c : n < s
    · rw [if_pos c]
      exact Or.inr ⟨0, Nat.le_refl 0, by omega, h0.symm⟩
    · rw [if_neg c]
      exact Or.inl rfl
  | i + 1 => by
    have ih := bs_at (n := n) (s := s) h0 i
    show (if i + s < n then bsD n s D i else mn (bsD n s D i) (D (i + 1))) = 1000000 ∨ ∃ p, p ≤ i + 1 ∧ n < p + s ∧ (if i + s < n then bsD n s D i else mn (bsD n s D i) (D (i + 1))) = D p
    by_cases c : i + s < n
    · rw [if_pos c]
      rcases ih with q | ⟨p, p1, p2, p3⟩
      · exact Or.inl q
      · exact Or.inr ⟨p, by omega, p2, p3⟩
    · rw [if_neg c]
      rcases mn_at (bsD n s D i) (D (i + 1)) with h | h
      · rw [h]
        rcases ih with q | ⟨p, p1, p2, p3⟩
        · exact Or.inl q
        · exact Or.inr ⟨p, by omega, p2, p3⟩
      · rw [h]
        exact Or.inr ⟨i + 1, Nat.le_refl _, by omega, rfl⟩
theorem isD_far {n s : Nat} {gn : Nat → Bool} {W : Nat → Nat → Nat} {D : Nat → Nat} (h0 : D 0 = 0) (h : ∀ i, i < n → isD s gn W D i) (p : Nat) (hp : p ≤ n) : D p ≤ 1000000 := by
  cases p with
  | zero => rw [h0]; exact Nat.zero_le _
  | succ i =>
    rw [h i (by omega)]
    split
    · exact Nat.le_refl _
    · exact mns_far _ _
/-- from below: all that was paid and is still to pay is C 0 at least -/
theorem un1 {n s : Nat} {gn : Nat → Bool} {W : Nat → Nat → Nat} {C D : Nat → Nat} (hs : 1 ≤ s) (hC : ∀ p, p ≤ n → isC n s gn W C p) (h0 : D 0 = 0) (hD : ∀ i, i < n → isD s gn W D i) : ∀ p, p ≤ n → C 0 ≤ D p + C p := by
  have cf : C 0 ≤ 1000000 := by rw [hC 0 (Nat.zero_le n)]; exact mns_far _ _
  intro p
  induction p using Nat.strongRecOn with
  | ind p ih =>
    intro hp
    cases p with
    | zero => omega
    | succ i =>
      have hd := hD i (by omega)
      unfold isD at hd
      cases hg : gn i with
      | true =>
        rw [hg, if_pos rfl] at hd
        omega
      | false =>
        rw [hg, if_neg (by decide)] at hd
        rcases mns_at (eD W D i) (least s i) with q | ⟨k, k1, k2⟩
        · omega
        · have ks : k < s ∧ k < i + 1 := by
            unfold least at k1
            split at k1 <;> omega
          have h1 := ih (i - k) (by omega) (by omega)
          have h2 := mns_le (eC n gn W C (i - k)) s k ks.1
          rw [← hC (i - k) (by omega)] at h2
          have h3 : eC n gn W C (i - k) k = mn 1000000 (W i (k + 1) + C (i + 1)) := by
            unfold eC
            rw [if_neg (by omega), show i - k + k = i by omega, hg, if_neg (by decide)]
          rw [h3] at h2
          have h4 := mn_r 1000000 (W i (k + 1) + C (i + 1))
          have h5 : eD W D i k = D (i - k) + W i (k + 1) := rfl
          omega
theorem un2 {n s : Nat} {gn : Nat → Bool} {W : Nat → Nat → Nat} {C D : Nat → Nat} (hs : 1 ≤ s) (hC : ∀ p, p ≤ n → isC n s gn W C p) (h0 : D 0 = 0) (hD : ∀ i, i < n → isD s gn W D i) : ∀ q p, p + q = n → bsD n s D n ≤ D p + C p := by
  have bf := bs_far n s D n
  intro q
  induction q using Nat.strongRecOn with
  | ind q ih =>
    intro p hp
    have hc := hC p (by omega)
    unfold isC at hc
    rcases mns_at (eC n gn W C p) s with e | ⟨k, k1, k2⟩
    · omega
    · rw [← hc] at k2
      unfold eC at k2
      by_cases c : n < p + k + 1
      · have := bs_le (n := n) (s := s) h0 n p (by omega) (by omega)
        omega
      · rw [if_neg c] at k2
        cases hg : gn (p + k) with
        | true =>
          rw [hg, if_pos rfl] at k2
          omega
        | false =>
          rw [hg, if_neg (by decide)] at k2
          have h1 := ih (q - (k + 1)) (by omega) (p + k + 1) (by omega)
          have hd := hD (p + k) (by omega)
          unfold isD at hd
          rw [hg, if_neg (by decide)] at hd
          have h2 := mns_le (eD W D (p + k)) (least s (p + k)) k (by unfold least; split <;> omega)
          rw [← hd] at h2
          have h3 : eD W D (p + k) k = D p + W (p + k) (k + 1) := by
            unfold eD
            rw [show p + k - k = p by omega]
          rcases mn_at 1000000 (W (p + k) (k + 1) + C (p + k + 1)) with e | e
          · omega
          · omega
/-- both find the same -/
theorem un_eq {n s : Nat} {gn : Nat → Bool} {W : Nat → Nat → Nat} {C D : Nat → Nat} (hs : 1 ≤ s) (hC : ∀ p, p ≤ n → isC n s gn W C p) (h0 : D 0 = 0) (hD : ∀ i, i < n → isD s gn W D i) : bsD n s D n = C 0 := by
  have cf : C 0 ≤ 1000000 := by rw [hC 0 (Nat.zero_le n)]; exact mns_far _ _
  have h1 := un2 hs hC h0 hD n 0 (Nat.zero_add n)
  rcases bs_at (n := n) (s := s) h0 n with e | ⟨p, p1, p2, p3⟩
  · omega
  · have h2 := un1 hs hC h0 hD p p1
    have h3 : C p = 0 := by
      have h4 := mns_le (eC n gn W C p) s (s - 1) (by omega)
      rw [← hC p p1] at h4
      unfold eC at h4
      rw [if_pos (by omega)] at h4
      omega
    omega
