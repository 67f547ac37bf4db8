/-! ===== mutiny: the class's queue ===== -/
def hsD (n : Nat) (z : Nat → Nat) (s : Nat) : Prop := s / 16 < n ∧ s % 16 < z (s / 16)
def MW (a : Mem) (n : Nat) (z rk A B : Nat → Nat) (nl : Nat) : Prop := szOK n z ∧ cSz a n z ∧ (∀ s, s < 96 → rk s ≤ 9 ∧ a 3 (288 + s) = nI (rk s)) ∧ nl ≤ 16 ∧ a 19 1 = nI nl ∧ okDr A B nl ∧ ∀ l, l < nl → hsD n z (A l) ∧ hsD n z (B l) ∧ a 20 (5 * l + 0) = nI (A l / 16) ∧ a 20 (5 * l + 1) = nI (A l % 16) ∧ a 20 (5 * l + 2) = nI (B l / 16) ∧ a 20 (5 * l + 3) = nI (B l % 16)
def eqWq (a a0 : Mem) : Prop := ∀ c, c ≠ 90 → c ≠ 98 → c ≠ 99 → a c = a0 c
theorem MW_t {a a0 : Mem} {n nl : Nat} {z rk A B : Nat → Nat} (h : MW a0 n z rk A B nl) (e : eqWq a a0) : MW a n z rk A B nl := by
  unfold MW cSz
  rw [e 2 (by decide) (by decide) (by decide), e 3 (by decide) (by decide) (by decide), e 4 (by decide) (by decide) (by decide), e 19 (by decide) (by decide) (by decide), e 20 (by decide) (by decide) (by decide)]
  exact h
/-- a man who is there -/
def vmD (a0 : Mem) (n : Nat) (z : Nat → Nat) (m : Nat) : Prop := hsD n z m ∧ ¬ a0 3 (384 + m) = 2
theorem hs_96 {n m : Nat} {z : Nat → Nat} (hz : szOK n z) (h : hsD n z m) : m < 96 ∧ z (m / 16) ≤ 16 := by
  have h1 := hz.1
  have h2 := (hz.2 _ h.1).2
  have h3 := h.1
  have h4 := h.2
  exact ⟨by omega, h2⟩
def QS (a : Mem) (inQ : Nat → Bool) (qf : Nat → Nat) (len : Nat) : Prop := a 90 7 = nI len ∧ len = fb_ct inQ 96 ∧ (∀ j, j < len → a 99 j = nI (qf j)) ∧ (∀ m, inQ m = true ↔ ∃ j, j < len ∧ qf j = m) ∧ (∀ i j, i < j → j < len → qf i ≠ qf j)
theorem QS_add {a a' : Mem} {inQ : Nat → Bool} {qf : Nat → Nat} {len m : Nat} (h : QS a inQ qf len) (hm : inQ m = false) (m96 : m < 96) (e1 : a' 90 7 = nI (len + 1)) (e2 : a' 99 len = nI m) (e3 : ∀ j, j < len → a' 99 j = a 99 j) : QS a' (fun x => decide (x = m) || inQ x) (fun j => if j = len then m else qf j) (len + 1) := by
  obtain ⟨h1, h2, h3, h4, h5⟩ := h
  refine ⟨e1, ?_, fun j hj => ?_, fun x => ?_, fun i j hij hj => ?_⟩
  · rw [fb_in 96 hm, if_pos m96, ← h2]
  · show a' 99 j = nI (if j = len then m else qf j)
    by_cases c : j = len
    · rw [if_pos c, c, e2]
    · rw [if_neg c, e3 j (by omega), h3 j (by omega)]
  · show (decide (x = m) || inQ x) = true ↔ _
    rw [Bool.or_eq_true, h4 x]
    constructor
    · rintro (q | ⟨j, j1, j2⟩)
      · exact ⟨len, by omega, by show (if len = len then m else qf len) = x; rw [if_pos rfl]; exact (of_decide_eq_true q).symm⟩
      · exact ⟨j, by omega, by show (if j = len then m else qf j) = x; rw [if_neg (by omega)]; exact j2⟩
    · rintro ⟨j, j1, j2⟩
      have j2 : (if j = len then m else qf j) = x := j2
      by_cases c : j = len
      · rw [if_pos c] at j2
        exact Or.inl (decide_eq_true j2.symm)
      · rw [if_neg c] at j2
        exact Or.inr ⟨j, by omega, j2⟩
  · show (if i = len then m else qf i) ≠ (if j = len then m else qf j)
    rw [if_neg (show ¬ i = len by omega)]
    by_cases c : j = len
    · rw [if_pos c]
      intro q
      have := (h4 m).mpr ⟨i, by omega, q⟩
      rw [hm] at this
      exact absurd this (by decide)
    · rw [if_neg c]
      exact h5 i j hij (by omega)
theorem bgE {a : Mem} {m len : Nat} (hm : m < 96) (hl : len < 96) (e : a 90 7 = nI len) : F_U_beginMutiny (nI m) a = some (0, mw (mw (mw a 98 m 1000000) 99 len (nI m)) 90 7 (nI (len + 1))) := by
  have r1 : 0 ≤ nI m ∧ nI m ≤ 96 - 1 := (rngF (n := 96) (by decide)).mpr ⟨m, hm, rfl⟩
  have r2 : 0 ≤ nI len ∧ nI len ≤ 96 - 1 := (rngF (n := 96) (by decide)).mpr ⟨len, hl, rfl⟩
  have s1 : sd a 98 (nI m) 1000000 = some (mw a 98 m 1000000) := sd_in rfl (show m < 96 from hm) (by decide)
  have e1 : (mw a 98 m 1000000) 90 7 = nI len := e
  have s2 : sd (mw a 98 m 1000000) 99 (nI len) (nI m) = some (mw (mw a 98 m 1000000) 99 len (nI m)) := sd_in rfl (show len < 96 from hl) (by decide)
  have e2 : (mw (mw a 98 m 1000000) 99 len (nI m)) 90 7 = nI len := e
  simp only [F_U_beginMutiny, C_within, Option.bind_some, if_pos r1, one0, if_false, e, if_pos r2, s1, e1, s2, e2, nI_1]
theorem mwSelf (s : Mem) (c k : Nat) (v : Int32) : mw s c k v c k = v := by simp [mw]
theorem inD_s (m : Nat) : inD m m = 1 := if_pos rfl
theorem inD_o {m y : Nat} (h : ¬ y = m) : inD m y = 0 := if_neg h
def WS (a0 a : Mem) (n : Nat) (z rk : Nat → Nat) (S inQ : Nat → Bool) (qf cnt : Nat → Nat) (len : Nat) : Prop := eqWq a a0 ∧ QS a inQ qf len ∧ (∀ m, inQ m = true → vmD a0 n z m) ∧ (∀ m, vmD a0 n z m → inQ m = (S m || decide (wlN (rk m) ≤ cnt m))) ∧ ∀ m, vmD a0 n z m → cnt m ≤ 5000 ∧ (inQ m = false → a 98 m = nI (cnt m)) ∧ (inQ m = true → ∃ x, x ≤ cnt m ∧ a 98 m = nI (1000000 + x))
theorem WS_c {a0 a : Mem} {n len : Nat} {z rk qf cnt cnt' : Nat → Nat} {S inQ : Nat → Bool} (h : WS a0 a n z rk S inQ qf cnt len) (e : ∀ m, vmD a0 n z m → cnt' m = cnt m) : WS a0 a n z rk S inQ qf cnt' len := by
  obtain ⟨h1, h2, h3, h4, h5⟩ := h
  refine ⟨h1, h2, h3, fun m hm => ?_, fun m hm => ?_⟩
  · rw [e m hm]; exact h4 m hm
  · rw [e m hm]; exact h5 m hm
def extQ (qf qg : Nat → Nat) (len len' : Nat) : Prop := len ≤ len' ∧ ∀ j, j < len → qg j = qf j
theorem ext_t {q1 q2 q3 : Nat → Nat} {l1 l2 l3 : Nat} (h : extQ q1 q2 l1 l2) (k : extQ q2 q3 l2 l3) : extQ q1 q3 l1 l3 := ⟨Nat.le_trans h.1 k.1, fun j hj => (k.2 j (by have := h.1; omega)).trans (h.2 j hj)⟩
theorem ug_n {a : Mem} {n : Nat} {z : Nat → Nat} {x y : Int32} (hz : szOK n z) (hc : cSz a n z) (h : ∀ f i, f < n → i < z f → ¬ (x = nI f ∧ y = nI i)) : F_U_urge x y a = some (0, a) := by
  rcases C_has2 hz hc x y with ⟨f, i, h1, h2, h3, h4, -⟩ | ⟨-, h2⟩
  · exact absurd ⟨h3, h4⟩ (h f i h1 h2)
  · simp only [F_U_urge, h2, Option.bind_some, if_true]
theorem ug_y {a0 a : Mem} {n len nl : Nat} {z rk qf cnt A B : Nat → Nat} {S inQ : Nat → Bool} (hM : MW a0 n z rk A B nl) (h : WS a0 a n z rk S inQ qf cnt len) {m : Nat} (hm : hsD n z m) (hb : cnt m < 5000) : ∃ (a' : Mem) (inQ' : Nat → Bool) (qf' : Nat → Nat) (len' : Nat), F_U_urge (nI (m / 16)) (nI (m % 16)) a = some (0, a') ∧ WS a0 a' n z rk S inQ' qf' (fun x => cnt x + inD m x) len' ∧ extQ qf qf' len len' := by
  have hM' := MW_t hM h.1
  obtain ⟨hz, hc, hr, -⟩ := hM'
  obtain ⟨m96, z16⟩ := hs_96 hz hm
  have f6 : m / 16 < 6 := by have := hz.1; have := hm.1; omega
  have hh : F_H_has2 (nI (m / 16)) (nI (m % 16)) a = some (1, a) := by
    rcases C_has2 hz hc (nI (m / 16)) (nI (m % 16)) with ⟨_, _, -, -, -, -, k⟩ | ⟨k, -⟩
    · exact k
    · exact absurd ⟨rfl, rfl⟩ (k (m / 16) (m % 16) hm.1 hm.2)
  have mi := mi_c (a := a) (f := m / 16) (i := m % 16) f6 (by omega)
  rw [show 96 * 4 + 16 * (m / 16) + m % 16 = 384 + m by omega] at mi
  have e3 : a 3 = a0 3 := h.1 3 (by decide) (by decide) (by decide)
  by_cases cg : a0 3 (384 + m) = 2
  · rw [e3, if_pos cg] at mi
    refine ⟨a, inQ, qf, len, ?_, WS_c h (fun x hx => ?_), Nat.le_refl _, fun _ _ => rfl⟩
    · simp only [F_U_urge, hh, Option.bind_some, one0, if_false, mi]
    · have : ¬ x = m := fun q => by rw [q] at hx; exact hx.2 cg
      unfold inD
      try dsimp only
      rw [if_neg this]
      rfl
  · rw [e3, if_neg cg] at mi
    have vm : vmD a0 n z m := ⟨hm, cg⟩
    obtain ⟨h1, h2, h3, h4, h5⟩ := h
    have r1 : 0 ≤ nI m ∧ nI m ≤ 96 - 1 := (rngF (n := 96) (by decide)).mpr ⟨m, m96, rfl⟩
    have em : nI (m / 16) * 16 + nI (m % 16) = nI m := by
      rw [show (16 : Int32) = nI 16 from rfl, n_mul, nI_add]
      congr 1
      omega
    have l1 : ld a 98 (nI m) = some (a 98 m) := ld_in rfl (show m < 96 from m96) (by decide)
    have s1 : ∀ v, sd a 98 (nI m) v = some (mw a 98 m v) := fun v => sd_in rfl (show m < 96 from m96) (by decide)
    have l2 : ∀ v, ld (mw a 98 m v) 98 (nI m) = some v := fun v => (ld_in rfl (show m < 96 from m96) (by decide)).trans (congrArg some (by simp [mw]))
    have wi : ∀ v, F_U_willOf (nI (m / 16)) (nI (m % 16)) (mw a 98 m v) = some (nI (wlN (rk m)), mw a 98 m v) := fun v => wi_c f6 (by omega) (hr m m96).1 (by
      show a 3 (96 * 3 + 16 * (m / 16) + m % 16) = _
      rw [show 96 * 3 + 16 * (m / 16) + m % 16 = 288 + m by omega]
      exact (hr m m96).2)
    have w9 := wlN_9 (hr m m96).1
    have red : F_U_urge (nI (m / 16)) (nI (m % 16)) a = if a 98 m + 1 = nI (wlN (rk m)) then (F_U_beginMutiny (nI m) (mw a 98 m (a 98 m + 1))).bind fun z8 => some (0, z8.2) else some (0, mw a 98 m (a 98 m + 1)) := by
      simp only [F_U_urge, hh, Option.bind_some, one0, if_false, mi, if_true, em, C_within, if_pos r1, l1, s1, l2, wi]
    have oth : ∀ v x, x ≠ m → (mw a 98 m v) 98 x = a 98 x := fun v x hx => by simp [mw, hx]
    obtain ⟨b1, b2, b3⟩ := h5 m vm
    cases ci : inQ m with
    | true =>
      obtain ⟨x, x1, x2⟩ := b3 ci
      have ne : ¬ a 98 m + 1 = nI (wlN (rk m)) := fun q => by
        rw [x2, nI_1] at q
        have := (nI_eq (by omega) (by omega)).mp q
        omega
      rw [if_neg ne] at red
      refine ⟨_, inQ, qf, len, red, ⟨fun c c1 c2 c3 => (mw_o c2).trans (h1 c c1 c2 c3), h2, h3, fun y hy => ?_, fun y hy => ?_⟩, Nat.le_refl _, fun _ _ => rfl⟩
      · show inQ y = (S y || decide (wlN (rk y) ≤ cnt y + inD m y))
        rw [h4 y hy]
        by_cases cy : y = m
        · subst cy
          have q1 : (S y || decide (wlN (rk y) ≤ cnt y)) = true := by rw [← h4 y hy]; exact ci
          rw [q1, inD_s]
          rw [Bool.or_eq_true] at q1
          rcases q1 with q | q
          · rw [q]; rfl
          · rw [decide_eq_true (show wlN (rk y) ≤ cnt y + 1 by have := of_decide_eq_true q; omega), Bool.or_true]
        · rw [inD_o cy]
          rfl
      · obtain ⟨d1, d2, d3⟩ := h5 y hy
        show cnt y + inD m y ≤ 5000 ∧ (inQ y = false → mw a 98 m (a 98 m + 1) 98 y = nI (cnt y + inD m y)) ∧ (inQ y = true → ∃ x, x ≤ cnt y + inD m y ∧ mw a 98 m (a 98 m + 1) 98 y = nI (1000000 + x))
        by_cases cy : y = m
        · subst cy
          rw [inD_s, mwSelf]
          refine ⟨by omega, fun q => ?_, fun _ => ⟨x + 1, by omega, ?_⟩⟩
          · rw [ci] at q; exact absurd q (by decide)
          · rw [x2, nI_1, Nat.add_assoc]
        · rw [inD_o cy, oth _ y cy]
          exact ⟨by omega, d2, d3⟩
    | false =>
      have x2 := b2 ci
      have lt : cnt m < wlN (rk m) ∧ S m = false := by
        have := h4 m vm
        rw [ci] at this
        have := this.symm
        rw [Bool.or_eq_false_iff] at this
        exact ⟨by have := of_decide_eq_false this.2; omega, this.1⟩
      rw [x2, nI_1] at red
      by_cases ce : cnt m + 1 = wlN (rk m)
      · rw [if_pos (by rw [ce])] at red
        have len96 : len < 96 := by rw [h2.2.1]; exact fb_lt 96 m96 ci
        have eb := bgE (a := mw a 98 m (nI (cnt m + 1))) m96 len96 h2.1
        rw [eb] at red
        simp only [Option.bind_some] at red
        refine ⟨_, _, _, len + 1, red, ⟨fun c c1 c2 c3 => ?_, QS_add (a' := mw (mw (mw (mw a 98 m (nI (cnt m + 1))) 98 m 1000000) 99 len (nI m)) 90 7 (nI (len + 1))) h2 ci m96 (mwSelf _ _ _ _) (by rw [mw_o (by decide), mwSelf]) (fun j hj => by simp [mw]; omega), fun y hy => ?_, fun y hy => ?_, fun y hy => ?_⟩, by omega, fun j hj => if_neg (by omega)⟩
        · rw [mw_o c1, mw_o c3, mw_o c2, mw_o c2]
          exact h1 c c1 c2 c3
        · have hy : (decide (y = m) || inQ y) = true := hy
          rw [Bool.or_eq_true] at hy
          rcases hy with q | q
          · rw [of_decide_eq_true q]; exact vm
          · exact h3 y q
        · show (decide (y = m) || inQ y) = (S y || decide (wlN (rk y) ≤ cnt y + inD m y))
          by_cases cy : y = m
          · subst cy
            rw [inD_s, ce, decide_eq_true (Nat.le_refl _), Bool.or_true, decide_eq_true rfl, Bool.true_or]
          · rw [decide_eq_false cy, inD_o cy, Bool.false_or]
            exact h4 y hy
        · obtain ⟨d1, d2, d3⟩ := h5 y hy
          show cnt y + inD m y ≤ 5000 ∧ ((decide (y = m) || inQ y) = false → (mw (mw (mw (mw a 98 m (nI (cnt m + 1))) 98 m 1000000) 99 len (nI m)) 90 7 (nI (len + 1))) 98 y = nI (cnt y + inD m y)) ∧ ((decide (y = m) || inQ y) = true → ∃ x, x ≤ cnt y + inD m y ∧ (mw (mw (mw (mw a 98 m (nI (cnt m + 1))) 98 m 1000000) 99 len (nI m)) 90 7 (nI (len + 1))) 98 y = nI (1000000 + x))
          rw [mw_o (by decide), mw_o (by decide)]
          by_cases cy : y = m
          · subst cy
            rw [inD_s, decide_eq_true rfl, Bool.true_or, mwSelf]
            exact ⟨by omega, fun q => absurd q (by decide), fun _ => ⟨0, by omega, rfl⟩⟩
          · rw [inD_o cy, decide_eq_false cy, Bool.false_or, show (mw (mw a 98 m (nI (cnt m + 1))) 98 m 1000000) 98 y = a 98 y by simp [mw, cy]]
            exact ⟨by omega, d2, d3⟩
      · have ne : ¬ nI (cnt m + 1) = nI (wlN (rk m)) := fun q => ce ((nI_eq (by omega) (by omega)).mp q)
        rw [if_neg ne] at red
        refine ⟨_, inQ, qf, len, red, ⟨fun c c1 c2 c3 => (mw_o c2).trans (h1 c c1 c2 c3), h2, h3, fun y hy => ?_, fun y hy => ?_⟩, Nat.le_refl _, fun _ _ => rfl⟩
        · show inQ y = (S y || decide (wlN (rk y) ≤ cnt y + inD m y))
          rw [h4 y hy]
          by_cases cy : y = m
          · subst cy
            rw [inD_s, decide_eq_false (show ¬ wlN (rk y) ≤ cnt y by omega), decide_eq_false (show ¬ wlN (rk y) ≤ cnt y + 1 by omega)]
          · rw [inD_o cy]
            rfl
        · obtain ⟨d1, d2, d3⟩ := h5 y hy
          show cnt y + inD m y ≤ 5000 ∧ (inQ y = false → mw a 98 m (nI (cnt m + 1)) 98 y = nI (cnt y + inD m y)) ∧ (inQ y = true → ∃ x, x ≤ cnt y + inD m y ∧ mw a 98 m (nI (cnt m + 1)) 98 y = nI (1000000 + x))
          by_cases cy : y = m
          · subst cy
            rw [inD_s, mwSelf]
            refine ⟨by omega, fun _ => rfl, fun q => ?_⟩
            rw [ci] at q; exact absurd q (by decide)
          · rw [inD_o cy, oth _ y cy]
            exact ⟨by omega, d2, d3⟩
